/** A ledger of coins over a tree of blocks, following the best branch. */
public final class ChainUndo {
    public static final int BAD = -1;
    public static final int FULL = -2;
    public static final int UNSOUND = -3;
    public static final int NONE = -4;

    private static final int MOST_BLOCKS = 20;
    private static final int OWNERS = 4;
    private static final int GREATEST_MINT = 100;
    private static final int NO_SECOND = -1;

    // A set of blocks or of coins is a mask, bit b for number b: 20 of them fit an int.
    // Every block keeps the branch and the ledger that are due if it is the tip, so that
    // a change of branch needs no undoing: another block's masks are looked at.
    private final int[] branchOf = new int[MOST_BLOCKS];
    private final int[] ledgerOf = new int[MOST_BLOCKS];
    private final int[] heightOf = new int[MOST_BLOCKS];
    private final int[] ownerOf = new int[MOST_BLOCKS];
    private final int[] amountOf = new int[MOST_BLOCKS];
    private int blockCount;
    private int tipBlock;
    private int undoneCount;

    public ChainUndo() {
        branchOf[0] = 1;
        blockCount = 1;
        tipBlock = 0;
        undoneCount = 0;
    }

    public int mint(int parent, int owner, int amount) {
        if (isFull()) {
            return FULL;
        }
        if (!isBlock(parent) || !isOwner(owner) || amount < 1 || amount > GREATEST_MINT) {
            return BAD;
        }
        return addBlock(parent, owner, amount, 0);
    }

    public int pay(int parent, int owner, int first, int second) {
        if (isFull()) {
            return FULL;
        }
        if (!isBlock(parent) || !isOwner(owner)) {
            return BAD;
        }
        if (!canSpend(parent, first)) {
            return UNSOUND;
        }
        if (second == NO_SECOND) {
            return addBlock(parent, owner, amountOf[first], 1 << first);
        }
        if (second == first || !canSpend(parent, second)) {
            return UNSOUND;
        }
        int sum = amountOf[first] + amountOf[second];
        int spent = (1 << first) | (1 << second);
        return addBlock(parent, owner, sum, spent);
    }

    public int blocks() {
        return blockCount;
    }

    public int tip() {
        return tipBlock;
    }

    public int height(int block) {
        return isBlock(block) ? heightOf[block] : BAD;
    }

    public boolean unspent(int coin) {
        return canSpend(tipBlock, coin);
    }

    public int amount(int coin) {
        return isBlock(coin) ? amountOf[coin] : 0;
    }

    public long balance(int owner) {
        // No coin has an owner outside 0..3, so the sum of such an owner stays 0.
        long sum = 0;
        for (int coin = 1; coin < blockCount; coin++) {
            if (isOwnedInLedger(owner, coin)) {
                sum += amountOf[coin];
            }
        }
        return sum;
    }

    public int coins() {
        return sizeOf(ledgerOf[tipBlock]);
    }

    public int meeting(int a, int b) {
        if (!isBlock(a) || !isBlock(b)) {
            return BAD;
        }
        return greatestIn(branchOf[a] & branchOf[b]);
    }

    public int undone() {
        return undoneCount;
    }

    public int fewestFor(int owner, int amount) {
        if (!isOwner(owner)) {
            return BAD;
        }
        // Taking the largest coins first reaches any sum with the fewest of them;
        // an amount of 0 or less is reached before the first one.
        int taken = 0;
        int sum = 0;
        for (int count = 0; count < MOST_BLOCKS && sum < amount; count++) {
            int coin = largestCoin(owner, taken);
            if (coin == 0) {
                return NONE;
            }
            taken |= 1 << coin;
            sum += amountOf[coin];
        }
        return sizeOf(taken);
    }

    public int forget(int b) {
        // A parent is earlier than its children, so the last block is never a parent.
        boolean isLast = b == blockCount - 1;
        if (b == 0 || !isLast || b == tipBlock) {
            return NONE;
        }
        blockCount--;
        return b;
    }

    private boolean isFull() {
        return blockCount >= MOST_BLOCKS;
    }

    private boolean isBlock(int number) {
        return number >= 0 && number < blockCount;
    }

    private boolean isOwner(int number) {
        return number >= 0 && number < OWNERS;
    }

    private boolean canSpend(int parent, int coin) {
        return isBlock(coin) && isIn(ledgerOf[parent], coin);
    }

    private boolean isOwnedInLedger(int owner, int coin) {
        return ownerOf[coin] == owner && isIn(ledgerOf[tipBlock], coin);
    }

    private int addBlock(int parent, int owner, int amount, int spent) {
        int block = blockCount;
        int self = 1 << block;
        branchOf[block] = branchOf[parent] | self;
        ledgerOf[block] = (ledgerOf[parent] & ~spent) | self;
        heightOf[block] = heightOf[parent] + 1;
        ownerOf[block] = owner;
        amountOf[block] = amount;
        blockCount++;
        followIfHigher(block);
        return block;
    }

    private void followIfHigher(int block) {
        if (heightOf[block] <= heightOf[tipBlock]) {
            return;
        }
        int left = branchOf[tipBlock] & ~branchOf[block];
        undoneCount = sizeOf(left);
        tipBlock = block;
    }

    // Answers 0, which is no coin, if the owner has none beside those taken.
    private int largestCoin(int owner, int taken) {
        int largest = 0;
        for (int coin = 1; coin < blockCount; coin++) {
            boolean isFree = isOwnedInLedger(owner, coin) && !isIn(taken, coin);
            if (isFree && amountOf[coin] > amountOf[largest]) {
                largest = coin;
            }
        }
        return largest;
    }

    private static boolean isIn(int set, int number) {
        return ((set >> number) & 1) == 1;
    }

    private static int sizeOf(int set) {
        int size = 0;
        for (int number = 0; number < MOST_BLOCKS; number++) {
            size += (set >> number) & 1;
        }
        return size;
    }

    private static int greatestIn(int set) {
        int greatest = 0;
        for (int number = 0; number < MOST_BLOCKS; number++) {
            if (isIn(set, number)) {
                greatest = number;
            }
        }
        return greatest;
    }
}

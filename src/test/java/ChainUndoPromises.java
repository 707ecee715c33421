/** For each promise of the document: ordinary inputs, the edges it names, and wrong inputs. */
public final class ChainUndoPromises {
    private static final int LEAST = Integer.MIN_VALUE;
    private static final int MOST = Integer.MAX_VALUE;
    private static final int[] NO_BLOCKS_OF_FULL = {-1, 20, 21, 31, 32, 33, 64, LEAST, MOST};
    private static final int[] NO_OWNERS = {-1, 4, 5, 32, LEAST, MOST};

    private static int promise = 0;
    private static int wrong = 0;

    private static void due(String call, long got, long want) {
        if (got != want) {
            wrong++;
            System.out.println("promise " + promise + ": " + call + " answered " + got + ", due is " + want);
        }
    }

    private static void due(String call, boolean got, boolean want) {
        due(call, got ? 1 : 0, want ? 1 : 0);
    }

    /** Everything an object tells, so that two states can be told apart. */
    private static String look(ChainUndo x) {
        StringBuilder s = new StringBuilder();
        s.append(x.blocks()).append(' ').append(x.tip()).append(' ').append(x.coins()).append(' ').append(x.undone());
        for (int b = 0; b < 20; b++) {
            s.append(" | ").append(x.height(b)).append(' ').append(x.unspent(b)).append(' ').append(x.amount(b));
            s.append(' ').append(x.meeting(b, x.tip()));
        }
        for (int owner = 0; owner < 4; owner++) {
            s.append(" : ").append(x.balance(owner));
        }
        return s.toString();
    }

    private static void dueSame(String calls, String before, String after) {
        if (!before.equals(after)) {
            wrong++;
            System.out.println("promise " + promise + ": " + calls + " changed\n  " + before + "\nto\n  " + after);
        }
    }

    /** A line of mints on block 0 up to the given number of blocks, each of owner 0 and amount 1. */
    private static ChainUndo line(int blocks) {
        ChainUndo x = new ChainUndo();
        for (int b = 1; b < blocks; b++) {
            due("mint(" + (b - 1) + ", 0, 1)", x.mint(b - 1, 0, 1), b);
        }
        return x;
    }

    /** Blocks 1-2-3 and the longer branch 1-4-5-6; 3 spends 1 and 2, 6 spends 1 and 4. */
    private static ChainUndo fork() {
        ChainUndo x = new ChainUndo();
        due("mint(0, 0, 50)", x.mint(0, 0, 50), 1);
        due("mint(1, 1, 30)", x.mint(1, 1, 30), 2);
        due("pay(2, 2, 1, 2)", x.pay(2, 2, 1, 2), 3);
        due("mint(1, 0, 20)", x.mint(1, 0, 20), 4);
        due("mint(4, 0, 25)", x.mint(4, 0, 25), 5);
        due("pay(5, 3, 4, 1)", x.pay(5, 3, 4, 1), 6);
        return x;
    }

    private static void newObject() {
        ChainUndo x = new ChainUndo();
        due("blocks()", x.blocks(), 1);
        due("tip()", x.tip(), 0);
        due("height(0)", x.height(0), 0);
        due("height(1)", x.height(1), -1);
        due("coins()", x.coins(), 0);
        due("unspent(0)", x.unspent(0), false);
        due("amount(0)", x.amount(0), 0);
        due("undone()", x.undone(), 0);
        due("meeting(0, 0)", x.meeting(0, 0), 0);
        for (int owner = 0; owner < 4; owner++) {
            due("balance(" + owner + ")", x.balance(owner), 0);
            due("fewestFor(" + owner + ", 1)", x.fewestFor(owner, 1), -4);
        }
        x.mint(0, 0, 5);
        due("blocks() of a second object", new ChainUndo().blocks(), 1);
    }

    private static void mint() {
        ChainUndo x = new ChainUndo();
        due("mint(0, 0, 1)", x.mint(0, 0, 1), 1);
        due("mint(1, 3, 100)", x.mint(1, 3, 100), 2);
        due("mint(0, 2, 7)", x.mint(0, 2, 7), 3);
        due("balance(0)", x.balance(0), 1);
        due("balance(3)", x.balance(3), 100);
        due("amount(3)", x.amount(3), 7);
        for (int amount : new int[] {0, -1, 101, 102, LEAST, MOST}) {
            due("mint(0, 0, " + amount + ")", x.mint(0, 0, amount), -1);
        }
        for (int owner : NO_OWNERS) {
            due("mint(0, " + owner + ", 1)", x.mint(0, owner, 1), -1);
        }
        for (int parent : new int[] {-1, 4, 19, 20, 32, LEAST, MOST}) {
            due("mint(" + parent + ", 0, 1)", x.mint(parent, 0, 1), -1);
        }
        due("blocks()", x.blocks(), 4);

        ChainUndo full = line(20);
        due("mint(0, 0, 1) at 20 blocks", full.mint(0, 0, 1), -2);
        due("mint(-1, 0, 1) at 20 blocks", full.mint(-1, 0, 1), -2);
        due("mint(20, 0, 1) at 20 blocks", full.mint(20, 0, 1), -2);
        due("mint(0, 4, 1) at 20 blocks", full.mint(0, 4, 1), -2);
        due("mint(0, 0, 0) at 20 blocks", full.mint(0, 0, 0), -2);
        due("blocks()", full.blocks(), 20);
    }

    private static void pay() {
        ChainUndo x = fork();
        due("pay(6, 1, 3, -1), made on another branch", x.pay(6, 1, 3, -1), -3);
        due("pay(6, 1, 5, 2), second made on another branch", x.pay(6, 1, 5, 2), -3);
        due("pay(6, 1, 1, -1), spent on the branch", x.pay(6, 1, 1, -1), -3);
        due("pay(6, 1, 5, 4), second spent on the branch", x.pay(6, 1, 5, 4), -3);
        due("pay(5, 1, 6, -1), made later on the branch", x.pay(5, 1, 6, -1), -3);
        due("pay(6, 1, 7, -1), the new block's own number", x.pay(6, 1, 7, -1), -3);
        due("pay(6, 1, 5, 7), the new block's own number", x.pay(6, 1, 5, 7), -3);
        for (int none : new int[] {0, -2, 8, 20, 32, 37, 38, LEAST, MOST}) {
            due("pay(6, 1, " + none + ", -1)", x.pay(6, 1, none, -1), -3);
            due("pay(6, 1, 5, " + none + ")", x.pay(6, 1, 5, none), -3);
            due("pay(6, 1, " + none + ", 5)", x.pay(6, 1, none, 5), -3);
        }
        for (int owner : NO_OWNERS) {
            due("pay(6, " + owner + ", 5, -1)", x.pay(6, owner, 5, -1), -1);
            due("pay(6, " + owner + ", 0, -1)", x.pay(6, owner, 0, -1), -1);
        }
        for (int parent : new int[] {-1, 7, 19, 20, 38, LEAST, MOST}) {
            due("pay(" + parent + ", 0, 5, -1)", x.pay(parent, 0, 5, -1), -1);
            due("pay(" + parent + ", 0, 0, -1)", x.pay(parent, 0, 0, -1), -1);
        }
        due("blocks()", x.blocks(), 7);
        due("pay(4, 2, 1, -1), spent on another branch alone", x.pay(4, 2, 1, -1), 7);
        due("amount(7)", x.amount(7), 50);
        due("pay(6, 1, 6, 5), the parent's coin", x.pay(6, 1, 6, 5), 8);
        due("amount(8)", x.amount(8), 95);
        due("unspent(5)", x.unspent(5), false);
        due("unspent(6)", x.unspent(6), false);
        due("unspent(8)", x.unspent(8), true);
        due("balance(1)", x.balance(1), 95);
        due("pay(8, 0, 8, -1)", x.pay(8, 0, 8, -1), 9);
        due("amount(9)", x.amount(9), 95);
        due("unspent(8)", x.unspent(8), false);
        payAtFull();
    }

    private static void payAtFull() {
        ChainUndo x = line(20);
        due("pay(19, 0, 19, -1) at 20 blocks", x.pay(19, 0, 19, -1), -2);
        due("pay(20, 0, 1, -1) at 20 blocks", x.pay(20, 0, 1, -1), -2);
        due("pay(0, 4, 1, -1) at 20 blocks", x.pay(0, 4, 1, -1), -2);
        due("pay(0, 0, 0, -1) at 20 blocks", x.pay(0, 0, 0, -1), -2);
        ChainUndo y = line(19);
        due("pay(18, 0, 18, 1) as the last block", y.pay(18, 0, 18, 1), 19);
        due("amount(19)", y.amount(19), 2);
        due("unspent(19)", y.unspent(19), true);
    }

    private static void blocks() {
        ChainUndo x = new ChainUndo();
        due("blocks()", x.blocks(), 1);
        for (int b = 1; b < 20; b++) {
            due("mint", x.mint(b / 2, 0, 1), b);
            due("blocks()", x.blocks(), b + 1);
        }
        x.mint(0, 0, 1);
        due("blocks() after FULL", x.blocks(), 20);
        ChainUndo y = line(2);
        y.pay(1, 0, 1, -1);
        due("blocks() after pay", y.blocks(), 3);
        y.mint(0, 0, 1);
        y.forget(3);
        due("blocks() after forget", y.blocks(), 3);
    }

    private static void tip() {
        ChainUndo x = line(3);
        due("tip()", x.tip(), 2);
        x.mint(0, 0, 1);
        due("tip() after a lower block", x.tip(), 2);
        x.mint(3, 0, 1);
        due("tip() after a block of the same height", x.tip(), 2);
        x.pay(4, 1, 4, -1);
        due("tip() after a higher block of another branch", x.tip(), 5);
        x.mint(2, 0, 1);
        due("tip() after a block of the same height", x.tip(), 5);
        x.mint(6, 0, 1);
        due("tip() back on the first branch", x.tip(), 7);
        due("tip() of a full line", line(20).tip(), 19);
    }

    private static void height() {
        ChainUndo x = fork();
        int[] heights = {0, 1, 2, 3, 2, 3, 4};
        for (int b = 0; b < heights.length; b++) {
            due("height(" + b + ")", x.height(b), heights[b]);
        }
        for (int none : new int[] {-1, 7, 19, 20, LEAST, MOST}) {
            due("height(" + none + ")", x.height(none), -1);
        }
        ChainUndo full = line(20);
        due("height(19)", full.height(19), 19);
        for (int none : NO_BLOCKS_OF_FULL) {
            due("height(" + none + ")", full.height(none), -1);
        }
        x.mint(0, 0, 1);
        x.forget(7);
        due("height(7) after forget", x.height(7), -1);
    }

    private static void unspent() {
        ChainUndo x = fork();
        boolean[] unspent = {false, false, false, false, false, true, true};
        for (int b = 0; b < unspent.length; b++) {
            due("unspent(" + b + ")", x.unspent(b), unspent[b]);
        }
        ChainUndo y = line(3);
        due("unspent(1)", y.unspent(1), true);
        y.pay(1, 0, 1, -1);
        due("unspent(1), spent on another branch", y.unspent(1), true);
        due("unspent(3), made on another branch", y.unspent(3), false);
        y.mint(3, 0, 1);
        due("unspent(1) after the branch changed", y.unspent(1), false);
        due("unspent(2) after the branch changed", y.unspent(2), false);
        due("unspent(3) after the branch changed", y.unspent(3), true);
        y.mint(2, 0, 1);
        y.mint(5, 0, 1);
        due("unspent(1) after it changed back", y.unspent(1), true);
        due("unspent(2) after it changed back", y.unspent(2), true);
        due("unspent(3) after it changed back", y.unspent(3), false);
        ChainUndo full = line(20);
        for (int none : NO_BLOCKS_OF_FULL) {
            due("unspent(" + none + ")", full.unspent(none), false);
        }
    }

    private static void amount() {
        ChainUndo x = fork();
        int[] amounts = {0, 50, 30, 80, 20, 25, 70};
        for (int b = 0; b < amounts.length; b++) {
            due("amount(" + b + ")", x.amount(b), amounts[b]);
        }
        for (int none : new int[] {-1, 7, 19, 20, LEAST, MOST}) {
            due("amount(" + none + ")", x.amount(none), 0);
        }
        x.mint(0, 0, 9);
        due("amount(7)", x.amount(7), 9);
        x.forget(7);
        due("amount(7) after forget", x.amount(7), 0);
        ChainUndo full = line(20);
        for (int none : NO_BLOCKS_OF_FULL) {
            due("amount(" + none + ")", full.amount(none), 0);
        }
        ChainUndo y = new ChainUndo();
        y.mint(0, 0, 100);
        y.mint(1, 0, 100);
        due("pay(2, 0, 1, 2)", y.pay(2, 0, 1, 2), 3);
        due("amount(3), above 100", y.amount(3), 200);
    }

    private static void balance() {
        ChainUndo x = fork();
        long[] balances = {25, 0, 0, 70};
        for (int owner = 0; owner < 4; owner++) {
            due("balance(" + owner + ")", x.balance(owner), balances[owner]);
        }
        for (int owner : NO_OWNERS) {
            due("balance(" + owner + ")", x.balance(owner), 0);
        }
        ChainUndo y = new ChainUndo();
        for (int b = 1; b < 20; b++) {
            y.mint(b - 1, 2, 100);
        }
        due("balance(2) of 19 coins", y.balance(2), 1900);
        due("balance(0)", y.balance(0), 0);
    }

    private static void coins() {
        due("coins()", fork().coins(), 2);
        ChainUndo x = line(20);
        due("coins() of 19 mints", x.coins(), 19);
        ChainUndo y = line(4);
        y.pay(3, 1, 1, -1);
        due("coins() after one is spent", y.coins(), 3);
        y.pay(4, 1, 4, 2);
        due("coins() after two are spent", y.coins(), 2);
        y.mint(0, 0, 1);
        due("coins() after a block of another branch", y.coins(), 2);
    }

    private static void meeting() {
        ChainUndo x = fork();
        due("meeting(3, 6)", x.meeting(3, 6), 1);
        due("meeting(6, 3)", x.meeting(6, 3), 1);
        due("meeting(5, 6)", x.meeting(5, 6), 5);
        due("meeting(6, 4)", x.meeting(6, 4), 4);
        due("meeting(3, 3)", x.meeting(3, 3), 3);
        due("meeting(0, 6)", x.meeting(0, 6), 0);
        x.mint(0, 0, 1);
        due("meeting(7, 6)", x.meeting(7, 6), 0);
        due("meeting(7, 7)", x.meeting(7, 7), 7);
        for (int none : new int[] {-1, 8, 19, 20, LEAST, MOST}) {
            due("meeting(" + none + ", 0)", x.meeting(none, 0), -1);
            due("meeting(0, " + none + ")", x.meeting(0, none), -1);
            due("meeting(" + none + ", same)", x.meeting(none, none), -1);
        }
        due("meeting(19, 19)", line(20).meeting(19, 19), 19);
    }

    private static void undone() {
        ChainUndo x = line(4);
        due("undone() on one branch", x.undone(), 0);
        x.mint(1, 0, 1);
        x.mint(4, 0, 1);
        due("undone() before the tip changes", x.undone(), 0);
        x.mint(5, 0, 1);
        due("undone() after 2 and 3 left", x.undone(), 2);
        x.mint(3, 0, 1);
        x.mint(0, 0, 1);
        due("undone() after blocks that are not the tip", x.undone(), 2);
        x.mint(7, 0, 1);
        due("undone() after 4, 5 and 6 left", x.undone(), 3);
        x.mint(9, 0, 1);
        due("undone() on the tip's own branch", x.undone(), 0);
        ChainUndo y = line(10);
        int parent = 0;
        for (int b = 10; b < 20; b++) {
            parent = y.mint(parent, 0, 1);
        }
        due("tip()", y.tip(), 19);
        due("undone() after all but block 0 left", y.undone(), 9);
    }

    private static void fewestFor() {
        ChainUndo x = new ChainUndo();
        int[] amounts = {10, 40, 20, 30, 5, 40};
        for (int b = 1; b <= amounts.length; b++) {
            x.mint(b - 1, 1, amounts[b - 1]);
        }
        x.mint(6, 2, 100);
        x.mint(0, 1, 100);
        int[][] rows = {{1, 1}, {40, 1}, {41, 2}, {80, 2}, {81, 3}, {110, 3}, {111, 4}, {130, 4}, {131, 5}, {140, 5},
            {141, 6}, {145, 6}, {146, -4}, {MOST, -4}, {0, 0}, {-1, 0}, {LEAST, 0}};
        for (int[] row : rows) {
            due("fewestFor(1, " + row[0] + ")", x.fewestFor(1, row[0]), row[1]);
        }
        due("fewestFor(0, 1), no coin", x.fewestFor(0, 1), -4);
        due("fewestFor(0, 0), no coin", x.fewestFor(0, 0), 0);
        x.pay(7, 3, 2, -1);
        due("fewestFor(1, 80), one spent", x.fewestFor(1, 80), 3);
        due("fewestFor(1, 106), one spent", x.fewestFor(1, 106), -4);
        ChainUndo full = line(20);
        due("fewestFor(0, 19) of 19 coins", full.fewestFor(0, 19), 19);
        due("fewestFor(0, 20) of 19 coins", full.fewestFor(0, 20), -4);
        for (int owner : NO_OWNERS) {
            due("fewestFor(" + owner + ", 1)", full.fewestFor(owner, 1), -1);
        }
    }

    private static void forget() {
        ChainUndo x = fork();
        due("forget(6), the tip", x.forget(6), -4);
        due("mint(3, 1, 9)", x.mint(3, 1, 9), 7);
        due("forget(6), the tip and not the last", x.forget(6), -4);
        due("forget(3), a parent", x.forget(3), -4);
        due("forget(0)", x.forget(0), -4);
        for (int none : new int[] {-1, 8, 19, 20, LEAST, MOST}) {
            due("forget(" + none + ")", x.forget(none), -4);
        }
        due("mint(0, 1, 8)", x.mint(0, 1, 8), 8);
        due("forget(7), not the last", x.forget(7), -4);
        due("forget(8)", x.forget(8), 8);
        due("forget(8) again", x.forget(8), -4);
        due("mint(8, 0, 1) on a forgotten one", x.mint(8, 0, 1), -1);
        due("meeting(8, 0)", x.meeting(8, 0), -1);
        due("forget(7), now the last", x.forget(7), 7);
        due("forget(6), the tip", x.forget(6), -4);
        due("blocks()", x.blocks(), 7);
        due("forget(0) of a new object", new ChainUndo().forget(0), -4);
        due("pay(3, 2, 3, -1), the number again", x.pay(3, 2, 3, -1), 7);
        due("height(7)", x.height(7), 4);
        due("amount(7)", x.amount(7), 80);
        due("meeting(7, 3)", x.meeting(7, 3), 3);
        forgetASpender();
        forgetAtFull();
    }

    private static void forgetASpender() {
        ChainUndo x = line(4);
        due("pay(1, 0, 1, -1)", x.pay(1, 0, 1, -1), 4);
        due("forget(4)", x.forget(4), 4);
        due("pay(1, 3, 1, -1), as its spender is gone", x.pay(1, 3, 1, -1), 4);
        due("mint(4, 0, 1)", x.mint(4, 0, 1), 5);
        due("mint(5, 0, 1)", x.mint(5, 0, 1), 6);
        due("balance(3)", x.balance(3), 1);
    }

    private static void forgetAtFull() {
        ChainUndo x = line(19);
        due("mint(0, 0, 1)", x.mint(0, 0, 1), 19);
        due("mint(0, 0, 1) at 20 blocks", x.mint(0, 0, 1), -2);
        due("forget(19)", x.forget(19), 19);
        due("mint(18, 3, 6)", x.mint(18, 3, 6), 19);
        due("tip()", x.tip(), 19);
        due("balance(3)", x.balance(3), 6);
    }

    private static void orderAndLimits() {
        ChainUndo x = fork();
        String before = look(x);
        for (int amount : new int[] {LEAST, -1, 0, 1, 1000, MOST}) {
            due("fewestFor(4, " + amount + ")", x.fewestFor(4, amount), -1);
            due("fewestFor(-1, " + amount + ")", x.fewestFor(-1, amount), -1);
        }
        due("fewestFor(1, 0)", x.fewestFor(1, 0), 0);
        due("fewestFor(1, 1)", x.fewestFor(1, 1), -4);
        due("pay(6, 0, -1, -1)", x.pay(6, 0, -1, -1), -3);
        due("pay(6, 0, -1, 5)", x.pay(6, 0, -1, 5), -3);
        due("pay(6, 0, 5, 5)", x.pay(6, 0, 5, 5), -3);
        due("pay(6, 0, 5, 4)", x.pay(6, 0, 5, 4), -3);
        due("pay(7, 0, 5, -1)", x.pay(7, 0, 5, -1), -1);
        due("mint(6, 0, 101)", x.mint(6, 0, 101), -1);
        due("mint(6, 4, 1)", x.mint(6, 4, 1), -1);
        due("forget(6)", x.forget(6), -4);
        due("forget(5)", x.forget(5), -4);
        due("forget(0)", x.forget(0), -4);
        due("forget(7)", x.forget(7), -4);
        dueSame("refused calls", before, look(x));

        due("mint(0, 0, 1)", x.mint(0, 0, 1), 7);
        due("forget(7)", x.forget(7), 7);
        due("undone() after forget", x.undone(), 2);
        dueSame("mint and forget", before, look(x));

        ChainUndo full = line(20);
        before = look(full);
        due("mint(19, 0, 1)", full.mint(19, 0, 1), -2);
        due("pay(19, 0, 19, -1)", full.pay(19, 0, 19, -1), -2);
        dueSame("refused calls at 20 blocks", before, look(full));
    }

    public static void main(String[] args) {
        promise = 1; newObject();
        promise = 2; mint();
        promise = 3; pay();
        promise = 4; blocks();
        promise = 5; tip();
        promise = 6; height();
        promise = 7; unspent();
        promise = 8; amount();
        promise = 9; balance();
        promise = 10; coins();
        promise = 11; meeting();
        promise = 12; undone();
        promise = 13; fewestFor();
        promise = 14; forget();
        promise = 15; orderAndLimits();
        System.out.println(wrong == 0 ? "all answers are as due" : wrong + " answers are not as due");
        if (wrong != 0) {
            System.exit(1);
        }
    }
}

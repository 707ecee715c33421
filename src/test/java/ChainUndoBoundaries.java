import java.util.stream.IntStream;

/** For each sentence of the document that names a boundary case, in the document's order, a test of its own. */
public final class ChainUndoBoundaries {
    private static final int BAD = -1;
    private static final int FULL = -2;
    private static final int UNSOUND = -3;
    private static final int NONE = -4;
    private static final int LEAST = Integer.MIN_VALUE;
    private static final int MOST = Integer.MAX_VALUE;
    private static final int[] NO_OWNERS = {-1, -2, -4, 4, 5, 7, 32, 256, 65536, LEAST, LEAST + 1, MOST};
    private static final int[] NO_AMOUNTS = {0, -1, -50, 101, 102, 257, 65537, LEAST, LEAST + 1, MOST};
    private static final int[] ZERO_OR_LESS = {0, -1, -100, LEAST, LEAST + 1};

    private static String sentence = "";
    private static int wrong = 0;

    private static void tell(String what) {
        wrong++;
        System.out.println(sentence + "\n  " + what);
    }

    private static void due(String call, long got, long want) {
        if (got != want) {
            tell(call + " answered " + got + ", due is " + want);
        }
    }

    private static void due(String call, boolean got, boolean want) {
        if (got != want) {
            tell(call + " answered " + got + ", due is " + want);
        }
    }

    private static void test(String where, String words, Runnable calls) {
        sentence = where + ": \"" + words + "\"";
        try {
            calls.run();
        } catch (RuntimeException e) {
            tell("a call threw " + e);
        }
    }

    /** Numbers that are no block's if that many are there; some fall on a block if they wrap at 5, 8, 16 or 31 bits. */
    private static int[] noBlocks(int count) {
        int[] numbers = {-1, -2, -31, -32, count, count + 1, 19, 20, 21, 32, 33, 34, 65, 257, 65537, LEAST, LEAST + 1, MOST};
        return IntStream.of(numbers).filter(number -> number < 0 || number >= count).toArray();
    }

    /** Blocks in one line, each a mint for owner 0. */
    private static ChainUndo line(int... amounts) {
        ChainUndo x = new ChainUndo();
        for (int b = 1; b <= amounts.length; b++) {
            due("mint(" + (b - 1) + ", 0, " + amounts[b - 1] + ")", x.mint(b - 1, 0, amounts[b - 1]), b);
        }
        return x;
    }

    /** One line of mints of 1 with that many blocks, block 0 among them. */
    private static ChainUndo lineOf(int blocks) {
        return line(IntStream.range(1, blocks).map(b -> 1).toArray());
    }

    /** A line 0-1-2-3 left for 0-1-4-5-6, the tip 6 and undone 2, then 7 on 3; 3 spends 2, and 6 spends 1 and 4. */
    private static ChainUndo fork() {
        ChainUndo x = line(50, 30);
        due("pay(2, 2, 2, -1)", x.pay(2, 2, 2, -1), 3);
        due("mint(1, 0, 20)", x.mint(1, 0, 20), 4);
        due("mint(4, 0, 25)", x.mint(4, 0, 25), 5);
        due("pay(5, 3, 4, 1)", x.pay(5, 3, 4, 1), 6);
        due("mint(3, 1, 9)", x.mint(3, 1, 9), 7);
        return x;
    }

    /** Some 300 calls: all that an object tells without a change. */
    private static String look(ChainUndo x) {
        StringBuilder s = new StringBuilder();
        s.append("blocks, tip, coins, undone: ").append(x.blocks()).append(' ').append(x.tip()).append(' ');
        s.append(x.coins()).append(' ').append(x.undone()).append("; height, unspent, amount, meetings:");
        for (int a = 0; a < 20; a++) {
            s.append(" | ").append(x.height(a)).append(' ').append(x.unspent(a)).append(' ').append(x.amount(a)).append(',');
            for (int b = 0; b <= a; b++) {
                s.append(' ').append(x.meeting(a, b));
            }
        }
        s.append("; balance, fewestFor:");
        for (int owner = 0; owner < 4; owner++) {
            s.append(" | ").append(x.balance(owner)).append(' ').append(x.fewestFor(owner, 26));
        }
        return s.toString();
    }

    /** What only later blocks tell: the coins that the inner blocks leave unspent, and the next numbers. */
    private static String grow(ChainUndo x) {
        StringBuilder s = new StringBuilder();
        for (int parent = 0; parent < 8; parent++) {
            for (int coin = 0; coin < 8; coin++) {
                s.append(' ').append(x.pay(parent, 1, coin, -1));
            }
        }
        return s.append(" undone ").append(x.undone()).append(" tip ").append(x.tip()).toString();
    }

    private static void dueSame(String calls, String got, String want) {
        if (!got.equals(want)) {
            tell("after " + calls + " it tells\n    " + got + "\n  due is\n    " + want);
        }
    }

    /** The growth comes last: it shows what the looks can't, but uses the objects up. */
    private static void dueAlike(String calls, ChainUndo got, ChainUndo want) {
        dueSame(calls, look(got), look(want));
        dueSame(calls, grow(got), grow(want));
    }

    private static void unknown(ChainUndo x, int number) {
        due("height(" + number + ")", x.height(number), BAD);
        due("unspent(" + number + ")", x.unspent(number), false);
        due("amount(" + number + ")", x.amount(number), 0);
        due("meeting(" + number + ", 0)", x.meeting(number, 0), BAD);
        due("meeting(0, " + number + ")", x.meeting(0, number), BAD);
        due("mint(" + number + ", 0, 1)", x.mint(number, 0, 1), BAD);
        due("pay(" + number + ", 0, 1, -1)", x.pay(number, 0, 1, -1), BAD);
        due("pay(1, 0, " + number + ", -1)", x.pay(1, 0, number, -1), UNSOUND);
        due("forget(" + number + ")", x.forget(number), NONE);
    }

    // What it is

    private static void the512thCall() {
        ChainUndo x = lineOf(3);
        for (int call = 3; call <= 510; call += 2) {
            due("mint(0, 1, 7), call " + call, x.mint(0, 1, 7), 3);
            due("forget(3), call " + (call + 1), x.forget(3), 3);
        }
        due("mint(2, 3, 100), call 511", x.mint(2, 3, 100), 3);
        due("balance(3), call 512", x.balance(3), 100);

        ChainUndo full = lineOf(20);
        for (int call = 20; call <= 511; call++) {
            due("mint(19, 0, 1), call " + call, full.mint(19, 0, 1), FULL);
        }
        due("blocks(), call 512", full.blocks(), 20);

        ChainUndo last = lineOf(2);
        for (int call = 2; call <= 511; call++) {
            due("unspent(1), call " + call, last.unspent(1), true);
        }
        due("pay(1, 0, 1, -1), call 512", last.pay(1, 0, 1, -1), 2);
    }

    // Terms

    private static void block0IsAlwaysThere() {
        ChainUndo x = new ChainUndo();
        due("forget(0), the only block", x.forget(0), NONE);
        due("height(0)", x.height(0), 0);
        due("blocks()", x.blocks(), 1);
        due("mint(0, 0, 1), the first", x.mint(0, 0, 1), 1);
        due("mint(0, 0, 1), a side block", x.mint(0, 0, 1), 2);
        due("forget(2)", x.forget(2), 2);
        due("forget(0)", x.forget(0), NONE);
        due("height(0)", x.height(0), 0);
        ChainUndo full = lineOf(20);
        due("height(0) at 20 blocks", full.height(0), 0);
        due("meeting(0, 19) at 20 blocks", full.meeting(0, 19), 0);
    }

    private static void heights() {
        ChainUndo x = lineOf(20);
        for (int b = 0; b < 20; b++) {
            due("height(" + b + ") of a line", x.height(b), b);
        }
        ChainUndo flat = new ChainUndo();
        for (int b = 1; b < 20; b++) {
            due("mint(0, 0, 1)", flat.mint(0, 0, 1), b);
            due("height(" + b + ") on block 0", flat.height(b), 1);
        }
        ChainUndo forked = fork();
        int[] heights = {0, 1, 2, 3, 2, 3, 4, 4};
        for (int b = 0; b < heights.length; b++) {
            due("height(" + b + ") of a fork", forked.height(b), heights[b]);
        }
    }

    private static void branchHasBothEnds() {
        ChainUndo x = fork();
        for (int b = 0; b < 8; b++) {
            due("meeting(" + b + ", " + b + ")", x.meeting(b, b), b);
            due("meeting(0, " + b + ")", x.meeting(0, b), 0);
            due("meeting(" + b + ", 0)", x.meeting(b, 0), 0);
        }
    }

    private static void atMost20() {
        ChainUndo x = lineOf(19);
        due("mint(18, 0, 1), the 20th block", x.mint(18, 0, 1), 19);
        due("mint(19, 0, 1), a 21st one", x.mint(19, 0, 1), FULL);
        due("blocks()", x.blocks(), 20);
        due("height(20)", x.height(20), BAD);
        ChainUndo y = lineOf(19);
        due("pay(18, 0, 18, 17), the 20th block", y.pay(18, 0, 18, 17), 19);
        due("pay(19, 0, 19, -1), a 21st one", y.pay(19, 0, 19, -1), FULL);
        due("blocks()", y.blocks(), 20);
        due("unspent(19)", y.unspent(19), true);
    }

    private static void sumMayBeAbove100() {
        ChainUndo x = line(100, 100, 1);
        due("pay(3, 1, 1, 3)", x.pay(3, 1, 1, 3), 4);
        due("amount(4)", x.amount(4), 101);
        due("pay(4, 1, 4, 2)", x.pay(4, 1, 4, 2), 5);
        due("amount(5)", x.amount(5), 201);
        due("pay(5, 2, 5, -1)", x.pay(5, 2, 5, -1), 6);
        due("amount(6)", x.amount(6), 201);

        ChainUndo most = line(100, 100, 100, 100, 100, 100, 100, 100, 100, 100);
        due("pay(10, 3, 1, 2)", most.pay(10, 3, 1, 2), 11);
        for (int coin = 3; coin <= 10; coin++) {
            int parent = coin + 8;
            due("pay(" + parent + ", 3, " + parent + ", " + coin + ")", most.pay(parent, 3, parent, coin), parent + 1);
        }
        due("amount(19)", most.amount(19), 1000);
        due("balance(3)", most.balance(3), 1000);
        due("coins()", most.coins(), 1);
        due("fewestFor(3, 1000)", most.fewestFor(3, 1000), 1);
    }

    private static void block0MakesNoCoin() {
        ChainUndo x = new ChainUndo();
        due("coins()", x.coins(), 0);
        due("amount(0)", x.amount(0), 0);
        due("unspent(0)", x.unspent(0), false);
        due("balance(0)", x.balance(0), 0);
        due("pay(0, 0, 0, -1)", x.pay(0, 0, 0, -1), UNSOUND);
        due("mint(0, 0, 5)", x.mint(0, 0, 5), 1);
        due("coins()", x.coins(), 1);
        due("balance(0)", x.balance(0), 5);
        due("unspent(0)", x.unspent(0), false);
        due("pay(1, 0, 0, -1)", x.pay(1, 0, 0, -1), UNSOUND);
        due("pay(1, 0, 1, 0)", x.pay(1, 0, 1, 0), UNSOUND);
        due("pay(1, 0, 0, 1)", x.pay(1, 0, 0, 1), UNSOUND);
    }

    private static void madeOnTheParentsBranch() {
        ChainUndo x = line(10, 20, 30);
        due("mint(1, 0, 40)", x.mint(1, 0, 40), 4);
        due("pay(2, 0, 3, -1), made by the parent's child", x.pay(2, 0, 3, -1), UNSOUND);
        due("pay(2, 0, 1, 3), made by the parent's child", x.pay(2, 0, 1, 3), UNSOUND);
        due("pay(4, 0, 2, -1), made by the parent's sibling", x.pay(4, 0, 2, -1), UNSOUND);
        due("pay(4, 0, 4, 2), made by the parent's sibling", x.pay(4, 0, 4, 2), UNSOUND);
        due("pay(0, 0, 1, -1), a branch without coins", x.pay(0, 0, 1, -1), UNSOUND);
        due("pay(3, 0, 5, -1), made by the block itself", x.pay(3, 0, 5, -1), UNSOUND);
        due("pay(3, 0, 3, 5), made by the block itself", x.pay(3, 0, 3, 5), UNSOUND);
        due("pay(3, 0, 3, 1), made by the parent and by the branch's first", x.pay(3, 0, 3, 1), 5);
        due("pay(4, 0, 4, 1), a branch that is not the tip's", x.pay(4, 0, 4, 1), 6);
    }

    private static void spentByNoneOfTheParentsBranch() {
        ChainUndo x = line(10, 20);
        due("pay(2, 0, 1, -1)", x.pay(2, 0, 1, -1), 3);
        due("pay(3, 0, 1, -1), spent by the parent", x.pay(3, 0, 1, -1), UNSOUND);
        due("pay(3, 0, 2, 1), spent by the parent", x.pay(3, 0, 2, 1), UNSOUND);
        due("mint(3, 0, 5)", x.mint(3, 0, 5), 4);
        due("pay(4, 0, 1, -1), spent by the parent's parent", x.pay(4, 0, 1, -1), UNSOUND);
        due("pay(2, 0, 1, -1), spent by the parent's child alone", x.pay(2, 0, 1, -1), 5);
        due("pay(1, 0, 1, -1), spent on other branches alone", x.pay(1, 0, 1, -1), 6);
        due("pay(6, 0, 1, -1), now by the parent too", x.pay(6, 0, 1, -1), UNSOUND);
        due("pay(4, 0, 4, 2)", x.pay(4, 0, 4, 2), 7);
        due("pay(7, 0, 4, -1), the first of two spent", x.pay(7, 0, 4, -1), UNSOUND);
        due("pay(7, 0, 2, -1), the second of two spent", x.pay(7, 0, 2, -1), UNSOUND);
    }

    private static void notTheSameCoinTwice() {
        ChainUndo x = line(10, 20);
        due("pay(2, 0, 1, 1)", x.pay(2, 0, 1, 1), UNSOUND);
        due("pay(2, 0, 2, 2)", x.pay(2, 0, 2, 2), UNSOUND);
        due("pay(1, 0, 1, 1)", x.pay(1, 0, 1, 1), UNSOUND);
        due("blocks()", x.blocks(), 3);
        due("pay(2, 0, 2, 1)", x.pay(2, 0, 2, 1), 3);
    }

    private static void tipNeedsAGreaterHeight() {
        ChainUndo x = new ChainUndo();
        due("tip() in the beginning", x.tip(), 0);
        due("mint(0, 0, 1)", x.mint(0, 0, 1), 1);
        due("tip(), one higher", x.tip(), 1);
        due("mint(0, 0, 1)", x.mint(0, 0, 1), 2);
        due("tip(), the same height", x.tip(), 1);
        due("pay(2, 0, 2, -1)", x.pay(2, 0, 2, -1), 3);
        due("tip(), one higher on another branch", x.tip(), 3);
        due("pay(1, 0, 1, -1)", x.pay(1, 0, 1, -1), 4);
        due("tip(), the same height", x.tip(), 3);
        due("mint(0, 0, 1)", x.mint(0, 0, 1), 5);
        due("tip(), a lower height", x.tip(), 3);
    }

    private static void ledgerHasTheTipsOwn() {
        ChainUndo x = line(10, 20);
        due("unspent(2), made by the tip", x.unspent(2), true);
        due("pay(2, 1, 1, 2)", x.pay(2, 1, 1, 2), 3);
        due("unspent(1), spent by the tip", x.unspent(1), false);
        due("unspent(2), spent by the tip", x.unspent(2), false);
        due("unspent(3), made by the tip", x.unspent(3), true);
        due("coins()", x.coins(), 1);
        due("mint(3, 1, 5)", x.mint(3, 1, 5), 4);
        due("unspent(1), spent before the tip", x.unspent(1), false);
        due("unspent(3), made before the tip", x.unspent(3), true);
        due("pay(1, 2, 1, -1)", x.pay(1, 2, 1, -1), 5);
        due("unspent(5), made on another branch", x.unspent(5), false);
        due("coins()", x.coins(), 2);
    }

    // Promise 1

    private static void onlyBlock0() {
        ChainUndo used = fork();
        ChainUndo x = new ChainUndo();
        due("blocks()", x.blocks(), 1);
        due("tip()", x.tip(), 0);
        due("undone()", x.undone(), 0);
        due("coins()", x.coins(), 0);
        due("meeting(0, 0)", x.meeting(0, 0), 0);
        for (int owner = 0; owner < 4; owner++) {
            due("balance(" + owner + ")", x.balance(owner), 0);
        }
        for (int none : noBlocks(1)) {
            due("height(" + none + ")", x.height(none), BAD);
        }
        due("blocks() of an object made before", used.blocks(), 8);
    }

    // Promise 2

    private static void mintFullFirst() {
        ChainUndo x = lineOf(20);
        due("mint(19, 0, 1)", x.mint(19, 0, 1), FULL);
        due("mint(0, 3, 100)", x.mint(0, 3, 100), FULL);
        for (int parent : noBlocks(20)) {
            due("mint(" + parent + ", 0, 1)", x.mint(parent, 0, 1), FULL);
        }
        for (int owner : NO_OWNERS) {
            due("mint(0, " + owner + ", 1)", x.mint(0, owner, 1), FULL);
        }
        for (int amount : NO_AMOUNTS) {
            due("mint(0, 0, " + amount + ")", x.mint(0, 0, amount), FULL);
        }
        due("mint(-1, 4, 0)", x.mint(-1, 4, 0), FULL);
        ChainUndo y = lineOf(19);
        due("mint(19, 0, 1) at 19 blocks", y.mint(19, 0, 1), BAD);
        due("mint(0, 4, 1) at 19 blocks", y.mint(0, 4, 1), BAD);
        due("mint(0, 0, 101) at 19 blocks", y.mint(0, 0, 101), BAD);
    }

    private static void mintParent() {
        ChainUndo x = fork();
        for (int parent : noBlocks(8)) {
            due("mint(" + parent + ", 0, 1)", x.mint(parent, 0, 1), BAD);
        }
        due("mint(7, 0, 1), the last block", x.mint(7, 0, 1), 8);
        due("mint(0, 0, 1), the first block", x.mint(0, 0, 1), 9);
        due("forget(9)", x.forget(9), 9);
        due("mint(9, 0, 1), a forgotten block", x.mint(9, 0, 1), BAD);
        due("mint(1, 0, 1) of a new object", new ChainUndo().mint(1, 0, 1), BAD);
    }

    private static void mintOwner() {
        ChainUndo x = new ChainUndo();
        for (int owner : NO_OWNERS) {
            due("mint(0, " + owner + ", 1)", x.mint(0, owner, 1), BAD);
        }
        due("mint(0, 0, 5), the least owner", x.mint(0, 0, 5), 1);
        due("mint(1, 3, 6), the greatest owner", x.mint(1, 3, 6), 2);
        due("balance(0)", x.balance(0), 5);
        due("balance(3)", x.balance(3), 6);
    }

    private static void mintAmount() {
        ChainUndo x = new ChainUndo();
        for (int amount : NO_AMOUNTS) {
            due("mint(0, 0, " + amount + ")", x.mint(0, 0, amount), BAD);
        }
        due("mint(0, 0, 1), the least amount", x.mint(0, 0, 1), 1);
        due("mint(1, 0, 100), the greatest amount", x.mint(1, 0, 100), 2);
        due("amount(1)", x.amount(1), 1);
        due("amount(2)", x.amount(2), 100);
    }

    private static void mintSpendsNothing() {
        ChainUndo x = lineOf(20);
        for (int coin = 1; coin < 20; coin++) {
            due("unspent(" + coin + ")", x.unspent(coin), true);
        }
    }

    // Promise 3

    private static void payOneOrTwo() {
        ChainUndo x = line(10, 20, 40);
        due("pay(3, 1, 2, -1)", x.pay(3, 1, 2, -1), 4);
        due("amount(4)", x.amount(4), 20);
        due("unspent(2)", x.unspent(2), false);
        due("unspent(1)", x.unspent(1), true);
        due("unspent(3)", x.unspent(3), true);
        due("pay(4, 1, 1, 3)", x.pay(4, 1, 1, 3), 5);
        due("amount(5)", x.amount(5), 50);
        due("unspent(1)", x.unspent(1), false);
        due("unspent(3)", x.unspent(3), false);
        due("unspent(4)", x.unspent(4), true);
        due("balance(1)", x.balance(1), 70);
    }

    private static void payFullFirst() {
        ChainUndo x = lineOf(20);
        due("pay(19, 0, 19, -1)", x.pay(19, 0, 19, -1), FULL);
        due("pay(19, 0, 19, 1)", x.pay(19, 0, 19, 1), FULL);
        for (int none : noBlocks(20)) {
            due("pay(" + none + ", 0, 1, -1)", x.pay(none, 0, 1, -1), FULL);
            due("pay(19, 0, " + none + ", -1)", x.pay(19, 0, none, -1), FULL);
            due("pay(19, 0, 1, " + none + ")", x.pay(19, 0, 1, none), FULL);
        }
        for (int owner : NO_OWNERS) {
            due("pay(19, " + owner + ", 1, -1)", x.pay(19, owner, 1, -1), FULL);
        }
        due("pay(19, 0, 1, 1)", x.pay(19, 0, 1, 1), FULL);
        due("pay(-1, 4, 0, 0)", x.pay(-1, 4, 0, 0), FULL);
    }

    private static void payBadBeforeUnsound() {
        ChainUndo x = fork();
        for (int parent : noBlocks(8)) {
            due("pay(" + parent + ", 0, 1, -1)", x.pay(parent, 0, 1, -1), BAD);
            due("pay(" + parent + ", 0, 0, -1)", x.pay(parent, 0, 0, -1), BAD);
            due("pay(" + parent + ", 0, 1, 1)", x.pay(parent, 0, 1, 1), BAD);
        }
        for (int owner : NO_OWNERS) {
            due("pay(6, " + owner + ", 5, -1)", x.pay(6, owner, 5, -1), BAD);
            due("pay(6, " + owner + ", 0, -1)", x.pay(6, owner, 0, -1), BAD);
            due("pay(6, " + owner + ", 5, 5)", x.pay(6, owner, 5, 5), BAD);
        }
        due("pay(6, 0, 5, -1), the least owner", x.pay(6, 0, 5, -1), 8);
        due("pay(6, 3, 6, -1), the greatest owner", x.pay(6, 3, 6, -1), 9);
        due("pay(9, 3, 9, -1), the last block", x.pay(9, 3, 9, -1), 10);
    }

    private static void noBlocksNumberNamesNoCoin() {
        ChainUndo x = fork();
        for (int none : noBlocks(8)) {
            due("pay(6, 0, " + none + ", -1)", x.pay(6, 0, none, -1), UNSOUND);
            due("pay(6, 0, " + none + ", 5)", x.pay(6, 0, none, 5), UNSOUND);
            due("pay(6, 0, " + none + ", same)", x.pay(6, 0, none, none), UNSOUND);
            if (none != -1) {
                due("pay(6, 0, 5, " + none + ")", x.pay(6, 0, 5, none), UNSOUND);
            }
        }
        due("blocks()", x.blocks(), 8);
    }

    private static void zeroNamesNoCoin() {
        ChainUndo x = fork();
        for (int parent = 0; parent < 8; parent++) {
            due("pay(" + parent + ", 0, 0, -1)", x.pay(parent, 0, 0, -1), UNSOUND);
            due("pay(" + parent + ", 0, 0, 0)", x.pay(parent, 0, 0, 0), UNSOUND);
        }
        due("pay(6, 0, 5, 0)", x.pay(6, 0, 5, 0), UNSOUND);
        due("pay(6, 0, 0, 5)", x.pay(6, 0, 0, 5), UNSOUND);
        due("blocks()", x.blocks(), 8);
    }

    private static void onlySecondMayBeMinus1() {
        ChainUndo x = fork();
        due("pay(6, 0, -1, 5)", x.pay(6, 0, -1, 5), UNSOUND);
        due("pay(6, 0, -1, 6)", x.pay(6, 0, -1, 6), UNSOUND);
        due("pay(6, 0, 5, -2)", x.pay(6, 0, 5, -2), UNSOUND);
        due("blocks()", x.blocks(), 8);
        due("pay(6, 0, 5, -1)", x.pay(6, 0, 5, -1), 8);
    }

    // Promises 4 to 8

    private static void numberOfBlocks() {
        ChainUndo x = new ChainUndo();
        due("blocks(), the least", x.blocks(), 1);
        for (int b = 1; b < 20; b++) {
            due("mint(" + b / 2 + ", 0, 1)", x.mint(b / 2, 0, 1), b);
            due("blocks()", x.blocks(), b + 1);
        }
        due("mint(0, 0, 1)", x.mint(0, 0, 1), FULL);
        due("blocks(), the most", x.blocks(), 20);
        due("forget(19)", x.forget(19), 19);
        due("blocks(), one gone", x.blocks(), 19);
        due("forget(19)", x.forget(19), NONE);
        due("blocks()", x.blocks(), 19);
    }

    private static void tipAtTheEnds() {
        due("tip() of a new object", new ChainUndo().tip(), 0);
        due("tip() of one line of 20", lineOf(20).tip(), 19);
        ChainUndo x = lineOf(19);
        due("mint(0, 0, 1), the 20th block", x.mint(0, 0, 1), 19);
        due("tip(), not the last block", x.tip(), 18);
        due("forget(19)", x.forget(19), 19);
        due("tip() after forget", x.tip(), 18);
        due("pay(18, 0, 1, -1), the 20th block", x.pay(18, 0, 1, -1), 19);
        due("tip(), the last block", x.tip(), 19);
    }

    private static void heightOfNone() {
        for (int count : new int[] {1, 2, 19, 20}) {
            ChainUndo x = lineOf(count);
            for (int none : noBlocks(count)) {
                due("height(" + none + ") at " + count + " blocks", x.height(none), BAD);
            }
            due("height(" + (count - 1) + ")", x.height(count - 1), count - 1);
        }
    }

    private static void unspentOfNone() {
        for (int count : new int[] {1, 2, 19, 20}) {
            ChainUndo x = lineOf(count);
            for (int none : noBlocks(count)) {
                due("unspent(" + none + ") at " + count + " blocks", x.unspent(none), false);
            }
            due("unspent(" + (count - 1) + ")", x.unspent(count - 1), count > 1);
            due("unspent(0)", x.unspent(0), false);
        }
    }

    private static void amountInTheLedgerOrNot() {
        ChainUndo x = fork();
        due("amount(6), in the ledger", x.amount(6), 70);
        due("amount(4), spent on the tip's branch", x.amount(4), 20);
        due("amount(2), spent on another branch", x.amount(2), 30);
        due("amount(3), made on another branch", x.amount(3), 30);
        due("amount(7), never the tip", x.amount(7), 9);
    }

    private static void amountOfBlock0AndOfNone() {
        for (int count : new int[] {1, 2, 19, 20}) {
            ChainUndo x = lineOf(count);
            due("amount(0)", x.amount(0), 0);
            for (int none : noBlocks(count)) {
                due("amount(" + none + ") at " + count + " blocks", x.amount(none), 0);
            }
        }
    }

    // Promises 9 to 12

    private static void balanceAtTheEnds() {
        ChainUndo x = fork();
        long[] balances = {25, 0, 0, 70};
        for (int owner = 0; owner < 4; owner++) {
            due("balance(" + owner + ") of a fork", x.balance(owner), balances[owner]);
        }
        int[] amounts = IntStream.range(1, 20).map(b -> 100).toArray();
        due("balance(0) of 19 coins of 100", line(amounts).balance(0), 1900);
    }

    private static void balanceOfNoOwner() {
        ChainUndo x = new ChainUndo();
        for (int owner = 0; owner < 4; owner++) {
            due("mint", x.mint(owner, owner, 10 + owner), owner + 1);
        }
        for (int owner : NO_OWNERS) {
            due("balance(" + owner + ")", x.balance(owner), 0);
            due("balance(" + owner + ") of a new object", new ChainUndo().balance(owner), 0);
        }
        for (int owner = 0; owner < 4; owner++) {
            due("balance(" + owner + ")", x.balance(owner), 10 + owner);
        }
    }

    private static void coinsAtTheEnds() {
        due("coins() of a new object", new ChainUndo().coins(), 0);
        due("coins() of 20 blocks in a line", lineOf(20).coins(), 19);
        ChainUndo x = lineOf(2);
        for (int b = 2; b < 20; b++) {
            due("pay(" + (b - 1) + ")", x.pay(b - 1, b % 4, b - 1, -1), b);
            due("coins(), all but the tip's spent", x.coins(), 1);
        }
        ChainUndo flat = new ChainUndo();
        for (int b = 1; b < 20; b++) {
            due("mint(0, 0, 1)", flat.mint(0, 0, 1), b);
        }
        due("coins() of 19 branches", flat.coins(), 1);
    }

    private static void meetingIsTheGreatest() {
        ChainUndo x = fork();
        due("meeting(3, 6), a fork at 1", x.meeting(3, 6), 1);
        due("meeting(6, 7), a fork at 1", x.meeting(6, 7), 1);
        due("meeting(2, 4), siblings", x.meeting(2, 4), 1);
        due("meeting(6, 5), its parent", x.meeting(6, 5), 5);
        due("meeting(1, 7), before it on its branch", x.meeting(1, 7), 1);
        due("mint(0, 0, 1)", x.mint(0, 0, 1), 8);
        due("meeting(8, 6), a fork at 0", x.meeting(8, 6), 0);
        ChainUndo full = lineOf(20);
        due("meeting(19, 19)", full.meeting(19, 19), 19);
        due("meeting(18, 19)", full.meeting(18, 19), 18);
        due("meeting(19, 1)", full.meeting(19, 1), 1);
    }

    private static void meetingOfNone() {
        ChainUndo x = fork();
        for (int none : noBlocks(8)) {
            due("meeting(" + none + ", 7)", x.meeting(none, 7), BAD);
            due("meeting(7, " + none + ")", x.meeting(7, none), BAD);
            due("meeting(" + none + ", same)", x.meeting(none, none), BAD);
            due("meeting(" + none + ", 0)", x.meeting(none, 0), BAD);
        }
        ChainUndo full = lineOf(20);
        for (int none : noBlocks(20)) {
            due("meeting(" + none + ", 19)", full.meeting(none, 19), BAD);
            due("meeting(19, " + none + ")", full.meeting(19, none), BAD);
        }
    }

    private static void undoneCountsWhatLeft() {
        ChainUndo x = line(1, 1);
        due("mint(1, 0, 1)", x.mint(1, 0, 1), 3);
        due("undone(), the tip stays", x.undone(), 0);
        due("mint(3, 0, 1)", x.mint(3, 0, 1), 4);
        due("undone(), 2 left and 0 and 1 stayed", x.undone(), 1);
        due("mint(2, 0, 1)", x.mint(2, 0, 1), 5);
        due("undone(), the tip stays", x.undone(), 1);
        due("pay(5, 0, 1, -1)", x.pay(5, 0, 1, -1), 6);
        due("undone(), 3 and 4 left", x.undone(), 2);

        ChainUndo most = lineOf(10);
        for (int b = 10; b < 20; b++) {
            int parent = b == 10 ? 0 : b - 1;
            due("mint(" + parent + ", 0, 1)", most.mint(parent, 0, 1), b);
        }
        due("undone(), all but block 0 left", most.undone(), 9);
    }

    private static void undoneOnTheTipsOwnBranch() {
        ChainUndo x = fork();
        due("undone()", x.undone(), 2);
        due("mint(6, 0, 1)", x.mint(6, 0, 1), 8);
        due("undone(), the tip was the parent", x.undone(), 0);
        ChainUndo y = fork();
        due("pay(6, 0, 6, -1)", y.pay(6, 0, 6, -1), 8);
        due("undone(), the tip was the parent", y.undone(), 0);
        ChainUndo line = new ChainUndo();
        for (int b = 1; b < 20; b++) {
            due("mint(" + (b - 1) + ", 0, 1)", line.mint(b - 1, 0, 1), b);
            due("undone() of a line", line.undone(), 0);
        }
    }

    private static void undoneWithoutAChange() {
        ChainUndo x = new ChainUndo();
        due("undone() of a new object", x.undone(), 0);
        due("mint(0, 0, 0)", x.mint(0, 0, 0), BAD);
        due("pay(0, 0, 0, -1)", x.pay(0, 0, 0, -1), UNSOUND);
        due("forget(0)", x.forget(0), NONE);
        due("undone(), the tip never changed", x.undone(), 0);
    }

    // Promise 13

    private static void fewestIsTheSmallestNumber() {
        int[][] orders = {{10, 60, 50, 1, 50}, {60, 50, 50, 10, 1}, {1, 10, 50, 50, 60}};
        int[][] rows = {{1, 1}, {59, 1}, {60, 1}, {61, 2}, {100, 2}, {110, 2}, {111, 3}, {160, 3}, {161, 4}, {170, 4}, {171, 5}};
        for (int[] amounts : orders) {
            ChainUndo x = line(amounts);
            for (int[] row : rows) {
                due("fewestFor(0, " + row[0] + ")", x.fewestFor(0, row[0]), row[1]);
            }
        }
        ChainUndo most = lineOf(20);
        for (int amount = 1; amount < 20; amount++) {
            due("fewestFor(0, " + amount + ") of 19 coins of 1", most.fewestFor(0, amount), amount);
        }
    }

    private static void fewestTakesTheOwnersOfTheLedger() {
        ChainUndo x = line(10, 20);
        due("mint(2, 1, 100)", x.mint(2, 1, 100), 3);
        due("mint(0, 0, 100)", x.mint(0, 0, 100), 4);
        due("fewestFor(0, 30), not another branch's", x.fewestFor(0, 30), 2);
        due("fewestFor(0, 31), nor another owner's", x.fewestFor(0, 31), NONE);
        due("pay(3, 2, 2, -1)", x.pay(3, 2, 2, -1), 5);
        due("fewestFor(0, 10)", x.fewestFor(0, 10), 1);
        due("fewestFor(0, 11), nor a spent one", x.fewestFor(0, 11), NONE);
        due("fewestFor(2, 20)", x.fewestFor(2, 20), 1);
    }

    private static void fewestForZeroOrLess() {
        ChainUndo x = fork();
        for (int amount : ZERO_OR_LESS) {
            for (int owner = 0; owner < 4; owner++) {
                due("fewestFor(" + owner + ", " + amount + ")", x.fewestFor(owner, amount), 0);
            }
            due("fewestFor(0, " + amount + ") of a new object", new ChainUndo().fewestFor(0, amount), 0);
        }
        due("fewestFor(0, 1)", x.fewestFor(0, 1), 1);
    }

    private static void fewestIsNone() {
        ChainUndo x = line(10, 20, 30);
        due("fewestFor(0, 60), just enough", x.fewestFor(0, 60), 3);
        for (int amount : new int[] {61, 62, 316, 65596, MOST - 1, MOST}) {
            due("fewestFor(0, " + amount + ")", x.fewestFor(0, amount), NONE);
        }
        due("fewestFor(1, 1), no coin", x.fewestFor(1, 1), NONE);
        due("fewestFor(0, 1) of a new object", new ChainUndo().fewestFor(0, 1), NONE);
        ChainUndo most = line(IntStream.range(1, 20).map(b -> 100).toArray());
        due("fewestFor(0, 1900), just enough", most.fewestFor(0, 1900), 19);
        due("fewestFor(0, 1901)", most.fewestFor(0, 1901), NONE);
        due("fewestFor(0, MOST)", most.fewestFor(0, MOST), NONE);
    }

    private static void fewestOfNoOwner() {
        ChainUndo x = fork();
        for (int owner : NO_OWNERS) {
            due("fewestFor(" + owner + ", 1)", x.fewestFor(owner, 1), BAD);
            due("fewestFor(" + owner + ", 25)", x.fewestFor(owner, 25), BAD);
        }
        due("fewestFor(0, 25), the least owner", x.fewestFor(0, 25), 1);
        due("fewestFor(3, 70), the greatest owner", x.fewestFor(3, 70), 1);
    }

    // Promise 14

    private static void forgetMakesUnknown() {
        ChainUndo x = fork();
        due("forget(7)", x.forget(7), 7);
        due("blocks()", x.blocks(), 7);
        unknown(x, 7);
        due("tip()", x.tip(), 6);
        due("pay(5, 2, 5, -1), the number again", x.pay(5, 2, 5, -1), 7);
        due("height(7)", x.height(7), 4);
        due("amount(7)", x.amount(7), 25);
        due("meeting(7, 6)", x.meeting(7, 6), 5);
        due("meeting(7, 3), its parent before", x.meeting(7, 3), 1);
        due("mint(7, 2, 3)", x.mint(7, 2, 3), 8);
        due("tip()", x.tip(), 8);
        due("unspent(7)", x.unspent(7), true);
        due("balance(1)", x.balance(1), 0);
        due("balance(2)", x.balance(2), 28);
    }

    private static void forgetASpender() {
        ChainUndo x = line(10, 20, 30);
        due("pay(2, 1, 1, 2)", x.pay(2, 1, 1, 2), 4);
        due("forget(4)", x.forget(4), 4);
        due("pay(2, 1, 2, -1), its coins are unspent again", x.pay(2, 1, 2, -1), 4);
        due("pay(4, 1, 1, -1), its coins are unspent again", x.pay(4, 1, 1, -1), 5);
        due("tip()", x.tip(), 5);
        due("balance(1)", x.balance(1), 30);
    }

    private static void forgetAtFull() {
        ChainUndo x = lineOf(19);
        due("mint(0, 0, 1)", x.mint(0, 0, 1), 19);
        due("mint(0, 0, 1)", x.mint(0, 0, 1), FULL);
        due("forget(20)", x.forget(20), NONE);
        due("forget(19)", x.forget(19), 19);
        due("mint(18, 3, 6), room again", x.mint(18, 3, 6), 19);
        due("tip()", x.tip(), 19);
        due("balance(3)", x.balance(3), 6);
        due("mint(19, 0, 1)", x.mint(19, 0, 1), FULL);
        due("forget(19), the tip now", x.forget(19), NONE);
    }

    private static void forgetBlock0() {
        ChainUndo x = new ChainUndo();
        due("forget(0), the only block", x.forget(0), NONE);
        due("blocks()", x.blocks(), 1);
        due("mint(0, 0, 1)", x.mint(0, 0, 1), 1);
        due("forget(0)", x.forget(0), NONE);
        due("forget(0) at 20 blocks", lineOf(20).forget(0), NONE);
    }

    private static void forgetAParent() {
        ChainUndo x = lineOf(4);
        due("mint(0, 0, 1)", x.mint(0, 0, 1), 4);
        due("mint(4, 0, 1)", x.mint(4, 0, 1), 5);
        due("forget(4), 5's parent", x.forget(4), NONE);
        due("forget(2), 3's parent", x.forget(2), NONE);
        due("height(5)", x.height(5), 2);
        due("forget(5)", x.forget(5), 5);
        due("forget(4), nothing's parent any more", x.forget(4), 4);
        due("blocks()", x.blocks(), 4);
    }

    private static void forgetTheTip() {
        ChainUndo x = lineOf(3);
        due("forget(2), the tip and the last", x.forget(2), NONE);
        due("mint(0, 0, 1)", x.mint(0, 0, 1), 3);
        due("forget(2), the tip and not the last", x.forget(2), NONE);
        due("forget(3)", x.forget(3), 3);
        due("forget(2), the last again", x.forget(2), NONE);
        due("tip()", x.tip(), 2);
        due("blocks()", x.blocks(), 3);
        due("forget(1), the first tip of all", lineOf(2).forget(1), NONE);
        due("mint(1, 0, 1)", x.mint(1, 0, 1), 3);
        due("mint(3, 0, 1)", x.mint(3, 0, 1), 4);
        due("forget(4), the tip of another branch", x.forget(4), NONE);
    }

    private static void forgetNone() {
        ChainUndo x = fork();
        for (int none : noBlocks(8)) {
            due("forget(" + none + ")", x.forget(none), NONE);
        }
        due("forget(7)", x.forget(7), 7);
        due("forget(7), gone before", x.forget(7), NONE);
        due("blocks()", x.blocks(), 7);
        ChainUndo y = new ChainUndo();
        for (int none : noBlocks(1)) {
            due("forget(" + none + ") of a new object", y.forget(none), NONE);
        }
        due("blocks() of a new object", y.blocks(), 1);
    }

    private static void forgetOnlyTheLast() {
        ChainUndo x = lineOf(3);
        due("mint(0, 0, 1)", x.mint(0, 0, 1), 3);
        due("mint(0, 0, 1)", x.mint(0, 0, 1), 4);
        due("mint(0, 0, 1)", x.mint(0, 0, 1), 5);
        due("forget(3), no parent and not the tip", x.forget(3), NONE);
        due("forget(4), no parent and not the tip", x.forget(4), NONE);
        due("blocks()", x.blocks(), 6);
        for (int b = 5; b >= 3; b--) {
            due("forget(" + b + ")", x.forget(b), b);
            due("blocks()", x.blocks(), b);
        }
        due("mint(2, 0, 1)", x.mint(2, 0, 1), 3);
        due("forget(1), a former tip", x.forget(1), NONE);
    }

    // Promise 15

    private static void fewestTestsTheOwnerFirst() {
        ChainUndo x = fork();
        for (int owner : NO_OWNERS) {
            for (int amount : ZERO_OR_LESS) {
                due("fewestFor(" + owner + ", " + amount + ")", x.fewestFor(owner, amount), BAD);
            }
            due("fewestFor(" + owner + ", 1)", x.fewestFor(owner, 1), BAD);
            due("fewestFor(" + owner + ", MOST)", x.fewestFor(owner, MOST), BAD);
            due("fewestFor(" + owner + ", 0) of a new object", new ChainUndo().fewestFor(owner, 0), BAD);
        }
    }

    private static void fewestTestsTheAmountThen() {
        ChainUndo x = fork();
        for (int amount : ZERO_OR_LESS) {
            due("fewestFor(1, " + amount + "), no coin", x.fewestFor(1, amount), 0);
            due("fewestFor(3, " + amount + "), a coin", x.fewestFor(3, amount), 0);
        }
        due("fewestFor(1, 1), no coin", x.fewestFor(1, 1), NONE);
        due("fewestFor(3, 71), a coin of 70", x.fewestFor(3, 71), NONE);
    }

    private static void firstThatIsMinus1() {
        ChainUndo x = fork();
        for (int parent = 0; parent < 8; parent++) {
            due("pay(" + parent + ", 0, -1, -1)", x.pay(parent, 0, -1, -1), UNSOUND);
            due("pay(" + parent + ", 0, -1, 1)", x.pay(parent, 0, -1, 1), UNSOUND);
        }
        due("pay(0, 0, -1, -1) of a new object", new ChainUndo().pay(0, 0, -1, -1), UNSOUND);
        due("blocks()", x.blocks(), 8);
    }

    private static void firstAndSecondTheSame() {
        ChainUndo x = fork();
        for (int coin = -2; coin < 10; coin++) {
            due("pay(6, 0, " + coin + ", " + coin + ")", x.pay(6, 0, coin, coin), UNSOUND);
        }
        due("blocks()", x.blocks(), 8);
        ChainUndo y = lineOf(19);
        for (int coin = 0; coin < 19; coin++) {
            due("pay(18, 0, " + coin + ", " + coin + ")", y.pay(18, 0, coin, coin), UNSOUND);
        }
        due("blocks()", y.blocks(), 19);
    }

    private static void fullChangesNothing() {
        ChainUndo x = fork();
        ChainUndo twin = fork();
        for (int b = 8; b < 20; b++) {
            due("mint(3, 0, 1)", x.mint(3, 0, 1), b);
            due("mint(3, 0, 1)", twin.mint(3, 0, 1), b);
        }
        due("mint(6, 0, 100)", x.mint(6, 0, 100), FULL);
        due("mint(3, 1, 2)", x.mint(3, 1, 2), FULL);
        due("pay(6, 0, 5, 6)", x.pay(6, 0, 5, 6), FULL);
        due("pay(3, 1, 1, -1)", x.pay(3, 1, 1, -1), FULL);
        due("mint(-1, 4, 0)", x.mint(-1, 4, 0), FULL);
        dueSame("FULL", look(x), look(twin));
        for (int b = 19; b >= 8; b--) {
            due("forget(" + b + ")", x.forget(b), b);
        }
        dueSame("FULL and forget", grow(x), grow(fork()));
    }

    private static void badChangesNothing() {
        ChainUndo x = fork();
        due("mint(8, 0, 1)", x.mint(8, 0, 1), BAD);
        due("mint(-1, 0, 1)", x.mint(-1, 0, 1), BAD);
        due("mint(6, 4, 1)", x.mint(6, 4, 1), BAD);
        due("mint(6, -1, 1)", x.mint(6, -1, 1), BAD);
        due("mint(6, 0, 0)", x.mint(6, 0, 0), BAD);
        due("mint(6, 0, 101)", x.mint(6, 0, 101), BAD);
        due("pay(8, 0, 5, 6)", x.pay(8, 0, 5, 6), BAD);
        due("pay(-1, 0, 5, 6)", x.pay(-1, 0, 5, 6), BAD);
        due("pay(6, 4, 5, 6)", x.pay(6, 4, 5, 6), BAD);
        due("pay(6, -1, 5, 6)", x.pay(6, -1, 5, 6), BAD);
        due("height(8)", x.height(8), BAD);
        due("meeting(8, 0)", x.meeting(8, 0), BAD);
        due("fewestFor(4, 1)", x.fewestFor(4, 1), BAD);
        dueAlike("BAD", x, fork());
    }

    private static void unsoundChangesNothing() {
        ChainUndo x = fork();
        due("pay(6, 0, 5, 5)", x.pay(6, 0, 5, 5), UNSOUND);
        due("pay(6, 0, 5, 4), the first is sound", x.pay(6, 0, 5, 4), UNSOUND);
        due("pay(6, 0, 4, 5), the second is sound", x.pay(6, 0, 4, 5), UNSOUND);
        due("pay(6, 0, 6, 0)", x.pay(6, 0, 6, 0), UNSOUND);
        due("pay(6, 0, 6, -2)", x.pay(6, 0, 6, -2), UNSOUND);
        due("pay(6, 0, 8, -1)", x.pay(6, 0, 8, -1), UNSOUND);
        due("pay(7, 0, 7, 2)", x.pay(7, 0, 7, 2), UNSOUND);
        due("pay(6, 0, -1, -1)", x.pay(6, 0, -1, -1), UNSOUND);
        dueAlike("UNSOUND", x, fork());
    }

    private static void noneChangesNothing() {
        ChainUndo x = fork();
        for (int b = -1; b < 7; b++) {
            due("forget(" + b + ")", x.forget(b), NONE);
        }
        due("forget(8)", x.forget(8), NONE);
        due("fewestFor(0, 26)", x.fewestFor(0, 26), NONE);
        due("fewestFor(1, 1)", x.fewestFor(1, 1), NONE);
        dueAlike("NONE", x, fork());
    }

    private static void forgetLeavesUndone() {
        ChainUndo x = fork();
        due("undone()", x.undone(), 2);
        due("forget(7)", x.forget(7), 7);
        due("undone() after forget", x.undone(), 2);
        due("forget(7)", x.forget(7), NONE);
        due("undone() after NONE", x.undone(), 2);
        due("mint(6, 0, 1)", x.mint(6, 0, 1), 7);
        due("mint(0, 0, 1)", x.mint(0, 0, 1), 8);
        due("forget(8)", x.forget(8), 8);
        due("undone() of 0 after forget", x.undone(), 0);

        ChainUndo again = fork();
        due("forget(7)", again.forget(7), 7);
        due("mint(3, 1, 9)", again.mint(3, 1, 9), 7);
        dueAlike("forget and the same block again", again, fork());
    }

    private static void testTermsAndUse() {
        test("What it is", "at most 512 calls after it has been made", ChainUndoBoundaries::the512thCall);
        test("Terms", "block 0 is the first one and is always there", ChainUndoBoundaries::block0IsAlwaysThere);
        test("Terms", "HEIGHT of block 0 is 0, that of another one is one more than its parent's", ChainUndoBoundaries::heights);
        test("Terms", "the list of blocks from block 0 to it", ChainUndoBoundaries::branchHasBothEnds);
        test("Terms", "At most 20 blocks are there", ChainUndoBoundaries::atMost20);
        test("Terms", "an amount may be above 100", ChainUndoBoundaries::sumMayBeAbove100);
        test("Terms", "Block 0 makes no coin and spends none", ChainUndoBoundaries::block0MakesNoCoin);
        test("Terms", "made by a block of its parent's branch", ChainUndoBoundaries::madeOnTheParentsBranch);
        test("Terms", "is spent by no block of its parent's branch", ChainUndoBoundaries::spentByNoneOfTheParentsBranch);
        test("Terms", "it does not name the same coin twice", ChainUndoBoundaries::notTheSameCoinTwice);
        test("Terms", "a new block becomes the tip iff its height is greater", ChainUndoBoundaries::tipNeedsAGreaterHeight);
        test("Terms", "made by blocks of the tip's branch and spent by none of them", ChainUndoBoundaries::ledgerHasTheTipsOwn);
    }

    private static void testMintAndPay() {
        test("Promise 1", "Only block 0", ChainUndoBoundaries::onlyBlock0);
        test("Promise 2", "Tested in this order: 20 blocks are there: FULL", ChainUndoBoundaries::mintFullFirst);
        test("Promise 2", "parent is no block", ChainUndoBoundaries::mintParent);
        test("Promise 2", "owner outside 0..3", ChainUndoBoundaries::mintOwner);
        test("Promise 2", "amount outside 1..100", ChainUndoBoundaries::mintAmount);
        test("Promise 2", "a block that spends nothing", ChainUndoBoundaries::mintSpendsNothing);
        test("Promise 3", "one or two coins (second -1: only the first)", ChainUndoBoundaries::payOneOrTwo);
        test("Promise 3", "Tested in this order: 20 blocks are there: FULL", ChainUndoBoundaries::payFullFirst);
        test("Promise 3", "parent is no block, or owner outside 0..3: BAD", ChainUndoBoundaries::payBadBeforeUnsound);
        test("Promise 3", "a number that is no block's", ChainUndoBoundaries::noBlocksNumberNamesNoCoin);
        test("Promise 3", "and 0, name no coin", ChainUndoBoundaries::zeroNamesNoCoin);
        test("Promise 3", "only second may be -1", ChainUndoBoundaries::onlySecondMayBeMinus1);
    }

    private static void testLooks() {
        test("Promise 4", "The number of blocks", ChainUndoBoundaries::numberOfBlocks);
        test("Promise 5", "The tip", ChainUndoBoundaries::tipAtTheEnds);
        test("Promise 6", "BAD if there is none with this number", ChainUndoBoundaries::heightOfNone);
        test("Promise 7", "false if there is no such block", ChainUndoBoundaries::unspentOfNone);
        test("Promise 8", "in the ledger or not", ChainUndoBoundaries::amountInTheLedgerOrNot);
        test("Promise 8", "0 for block 0 and for numbers that are no block's", ChainUndoBoundaries::amountOfBlock0AndOfNone);
        test("Promise 9", "The sum of the amounts of the coins of the ledger", ChainUndoBoundaries::balanceAtTheEnds);
        test("Promise 9", "0 for owner outside 0..3", ChainUndoBoundaries::balanceOfNoOwner);
        test("Promise 10", "The number of coins in the ledger", ChainUndoBoundaries::coinsAtTheEnds);
        test("Promise 11", "The greatest block that is in the branches of both", ChainUndoBoundaries::meetingIsTheGreatest);
        test("Promise 11", "BAD if one is no block", ChainUndoBoundaries::meetingOfNone);
        test("Promise 12", "blocks of the former tip's branch that left", ChainUndoBoundaries::undoneCountsWhatLeft);
        test("Promise 12", "0 when the new tip's parent was the tip before", ChainUndoBoundaries::undoneOnTheTipsOwnBranch);
        test("Promise 12", "and when the tip never changed", ChainUndoBoundaries::undoneWithoutAChange);
        test("Promise 13", "The smallest number of coins", ChainUndoBoundaries::fewestIsTheSmallestNumber);
        test("Promise 13", "of the owner, taken from the ledger", ChainUndoBoundaries::fewestTakesTheOwnersOfTheLedger);
        test("Promise 13", "0 if the amount is 0 or less", ChainUndoBoundaries::fewestForZeroOrLess);
        test("Promise 13", "NONE if all coins of the owner are not enough", ChainUndoBoundaries::fewestIsNone);
        test("Promise 13", "BAD for owner outside 0..3", ChainUndoBoundaries::fewestOfNoOwner);
    }

    private static void testForgetAndOrder() {
        test("Promise 14", "Makes block b unknown again", ChainUndoBoundaries::forgetMakesUnknown);
        test("Promise 14", "unknown again: what it spent", ChainUndoBoundaries::forgetASpender);
        test("Promise 14", "unknown again: one of 20 blocks", ChainUndoBoundaries::forgetAtFull);
        test("Promise 14", "which must not be block 0", ChainUndoBoundaries::forgetBlock0);
        test("Promise 14", "if no other block has it as its parent", ChainUndoBoundaries::forgetAParent);
        test("Promise 14", "and it is not the tip", ChainUndoBoundaries::forgetTheTip);
        test("Promise 14", "if there is no such block, NONE", ChainUndoBoundaries::forgetNone);
        test("Promise 14", "Only the block with the greatest number can go", ChainUndoBoundaries::forgetOnlyTheLast);
        test("Promise 15", "BAD if it is outside 0..3, whatever the amount is", ChainUndoBoundaries::fewestTestsTheOwnerFirst);
        test("Promise 15", "then 0 if the amount is 0 or less; then NONE", ChainUndoBoundaries::fewestTestsTheAmountThen);
        test("Promise 15", "a first that is -1 names no coin: UNSOUND", ChainUndoBoundaries::firstThatIsMinus1);
        test("Promise 15", "as is first and second being the same", ChainUndoBoundaries::firstAndSecondTheSame);
        test("Promise 15", "All that answers FULL changes nothing", ChainUndoBoundaries::fullChangesNothing);
        test("Promise 15", "All that answers BAD changes nothing", ChainUndoBoundaries::badChangesNothing);
        test("Promise 15", "All that answers UNSOUND changes nothing", ChainUndoBoundaries::unsoundChangesNothing);
        test("Promise 15", "All that answers NONE changes nothing", ChainUndoBoundaries::noneChangesNothing);
        test("Promise 15", "forget leaves undone as it is", ChainUndoBoundaries::forgetLeavesUndone);
    }

    public static void main(String[] args) {
        testTermsAndUse();
        testMintAndPay();
        testLooks();
        testForgetAndOrder();
        System.out.println(wrong == 0 ? "all answers are as due" : wrong + " answers are not as due");
        if (wrong != 0) {
            System.exit(1);
        }
    }
}

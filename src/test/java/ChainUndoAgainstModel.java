import java.util.ArrayList;
import java.util.HashSet;
import java.util.List;
import java.util.Set;

/** Runs of made-up calls, the same ones every time, compared with a plain model of the document's terms. */
public final class ChainUndoAgainstModel {
    private static final int RUNS = 4000;
    private static final int CALLS = 512;
    private static final int MOST_SHOWN = 20;
    private static final int[] ODD = {-3, -2, -1, 4, 5, 19, 20, 21, 31, 32, 33, 64, Integer.MIN_VALUE, Integer.MAX_VALUE};

    private static long seed = 1;
    private static int wrong = 0;

    private record Block(int parent, int owner, int amount, List<Integer> spends) {}

    /** Keeps the list of blocks alone and works everything else out from it at each call. */
    private static final class Model {
        final List<Block> all = new ArrayList<>(List.of(new Block(-1, -1, 0, List.of())));
        int tip = 0;
        int undone = 0;

        boolean has(int number) {
            return number >= 0 && number < all.size();
        }

        List<Integer> branch(int block) {
            List<Integer> branch = new ArrayList<>();
            for (int b = block; b != -1; b = all.get(b).parent()) {
                branch.add(0, b);
            }
            return branch;
        }

        int height(int block) {
            return has(block) ? branch(block).size() - 1 : -1;
        }

        Set<Integer> ledger(int block) {
            Set<Integer> ledger = new HashSet<>(branch(block));
            ledger.remove(0);
            for (int b : branch(block)) {
                ledger.removeAll(all.get(b).spends());
            }
            return ledger;
        }

        int add(Block block) {
            all.add(block);
            int number = all.size() - 1;
            if (height(number) > height(tip)) {
                List<Integer> left = branch(tip);
                left.removeAll(branch(number));
                undone = left.size();
                tip = number;
            }
            return number;
        }

        int mint(int parent, int owner, int amount) {
            if (all.size() == 20) {
                return -2;
            }
            if (!has(parent) || owner < 0 || owner > 3 || amount < 1 || amount > 100) {
                return -1;
            }
            return add(new Block(parent, owner, amount, List.of()));
        }

        int pay(int parent, int owner, int first, int second) {
            if (all.size() == 20) {
                return -2;
            }
            if (!has(parent) || owner < 0 || owner > 3) {
                return -1;
            }
            List<Integer> spends = second == -1 ? List.of(first) : List.of(first, second);
            if (new HashSet<>(spends).size() < spends.size() || !ledger(parent).containsAll(spends)) {
                return -3;
            }
            int sum = 0;
            for (int coin : spends) {
                sum += all.get(coin).amount();
            }
            return add(new Block(parent, owner, sum, spends));
        }

        int amount(int coin) {
            return has(coin) ? all.get(coin).amount() : 0;
        }

        List<Integer> amountsOf(int owner) {
            List<Integer> amounts = new ArrayList<>();
            for (int coin : ledger(tip)) {
                if (all.get(coin).owner() == owner) {
                    amounts.add(amount(coin));
                }
            }
            return amounts;
        }

        long balance(int owner) {
            long sum = 0;
            for (int amount : amountsOf(owner)) {
                sum += amount;
            }
            return sum;
        }

        int meeting(int a, int b) {
            if (!has(a) || !has(b)) {
                return -1;
            }
            List<Integer> both = branch(a);
            both.retainAll(branch(b));
            return both.stream().max(Integer::compare).get();
        }

        /** By the fewest coins for every exact sum, so that it does not lean on taking the largest first. */
        int fewestFor(int owner, int amount) {
            if (owner < 0 || owner > 3) {
                return -1;
            }
            if (amount <= 0) {
                return 0;
            }
            int total = (int) balance(owner);
            int[] fewest = new int[total + 1];
            for (int sum = 1; sum <= total; sum++) {
                fewest[sum] = 1000;
            }
            for (int coin : amountsOf(owner)) {
                for (int sum = total; sum >= coin; sum--) {
                    fewest[sum] = Math.min(fewest[sum], fewest[sum - coin] + 1);
                }
            }
            int best = 1000;
            for (int sum = amount; sum <= total && sum > 0; sum++) {
                best = Math.min(best, fewest[sum]);
            }
            return best == 1000 ? -4 : best;
        }

        int forget(int b) {
            boolean isParent = all.stream().anyMatch(block -> block.parent() == b);
            if (b == 0 || !has(b) || isParent || b == tip || b != all.size() - 1) {
                return -4;
            }
            all.remove(b);
            return b;
        }
    }

    private static int next(int bound) {
        seed = seed * 6364136223846793005L + 1442695040888963407L;
        return (int) ((seed >>> 33) % bound);
    }

    private static int odd() {
        return ODD[next(ODD.length)];
    }

    /** Mostly a block that is there, at times the first number that is none, at times an odd one. */
    private static int someBlock(Model model) {
        int kind = next(12);
        if (kind == 0) {
            return odd();
        }
        return kind < 5 ? Math.max(0, model.all.size() - next(4)) : next(model.all.size());
    }

    private static int someCoin(Model model, int parent) {
        if (next(4) == 0 || !model.has(parent)) {
            return someBlock(model);
        }
        List<Integer> ledger = new ArrayList<>(model.ledger(parent));
        return ledger.isEmpty() ? 0 : ledger.get(next(ledger.size()));
    }

    private static int someOwner() {
        return next(16) == 0 ? odd() : next(4);
    }

    private static int someAmount() {
        int kind = next(16);
        return kind == 0 ? odd() : kind < 3 ? 99 + next(3) : kind == 3 ? next(2) : 1 + next(100);
    }

    private static boolean due(int run, int call, String what, long got, long want) {
        if (got != want && ++wrong <= MOST_SHOWN) {
            System.out.println("run " + run + ", call " + call + ": " + what + " answered " + got + ", due is " + want);
        }
        return got == want;
    }

    private static boolean change(int run, int call, ChainUndo x, Model m) {
        int kind = next(8);
        if (kind < 3) {
            int parent = someBlock(m), owner = someOwner(), amount = someAmount();
            String what = "mint(" + parent + ", " + owner + ", " + amount + ")";
            return due(run, call, what, x.mint(parent, owner, amount), m.mint(parent, owner, amount));
        }
        if (kind < 6) {
            int parent = someBlock(m), owner = someOwner(), first = someCoin(m, parent);
            int second = next(3) == 0 ? -1 : someCoin(m, parent);
            String what = "pay(" + parent + ", " + owner + ", " + first + ", " + second + ")";
            return due(run, call, what, x.pay(parent, owner, first, second), m.pay(parent, owner, first, second));
        }
        int b = next(2) == 0 ? m.all.size() - 1 : someBlock(m);
        return due(run, call, "forget(" + b + ")", x.forget(b), m.forget(b));
    }

    private static boolean look(int run, int call, ChainUndo x, Model m) {
        int b = someBlock(m), other = someBlock(m), owner = someOwner();
        int amount = next(3) == 0 ? someAmount() : (int) m.balance(owner) + 1 - next(60);
        switch (next(10)) {
            case 0: return due(run, call, "blocks()", x.blocks(), m.all.size());
            case 1: return due(run, call, "tip()", x.tip(), m.tip);
            case 2: return due(run, call, "height(" + b + ")", x.height(b), m.height(b));
            case 3: return due(run, call, "unspent(" + b + ")", x.unspent(b) ? 1 : 0, m.ledger(m.tip).contains(b) ? 1 : 0);
            case 4: return due(run, call, "amount(" + b + ")", x.amount(b), m.amount(b));
            case 5: return due(run, call, "balance(" + owner + ")", x.balance(owner), m.balance(owner));
            case 6: return due(run, call, "coins()", x.coins(), m.ledger(m.tip).size());
            case 7: return due(run, call, "meeting(" + b + ", " + other + ")", x.meeting(b, other), m.meeting(b, other));
            case 8: return due(run, call, "undone()", x.undone(), m.undone);
            default: return due(run, call, "fewestFor(" + owner + ", " + amount + ")",
                    x.fewestFor(owner, amount), m.fewestFor(owner, amount));
        }
    }

    /** Ends at the first wrong answer: those after it would tell nothing new. */
    private static void run(int run) {
        ChainUndo x = new ChainUndo();
        Model m = new Model();
        int looksPerChange = next(12);
        for (int call = 1; call <= CALLS; call++) {
            boolean isChange = next(looksPerChange + 1) == 0;
            boolean isRight = isChange ? change(run, call, x, m) : look(run, call, x, m);
            if (!isRight) {
                return;
            }
        }
    }

    public static void main(String[] args) {
        for (int run = 1; run <= RUNS; run++) {
            run(run);
        }
        System.out.println(wrong == 0 ? "all answers are as due" : wrong + " runs went wrong");
        if (wrong != 0) {
            System.exit(1);
        }
    }
}

/** The example of README.md, row by row: what it tells its reader must hold. */
public final class ChainUndoReadme {
    private static int wrong = 0;

    private static void due(String call, long got, long want) {
        if (got != want) {
            wrong++;
            System.out.println("README.md: " + call + " answered " + got + ", due is " + want);
        }
    }

    public static void main(String[] args) {
        ChainUndo x = new ChainUndo();
        due("mint(0, 0, 50)", x.mint(0, 0, 50), 1);
        due("mint(1, 0, 30)", x.mint(1, 0, 30), 2);
        due("pay(2, 1, 1, 2)", x.pay(2, 1, 1, 2), 3);
        due("balance(1)", x.balance(1), 80);
        due("balance(0)", x.balance(0), 0);
        due("mint(1, 2, 7)", x.mint(1, 2, 7), 4);
        due("mint(4, 2, 8)", x.mint(4, 2, 8), 5);
        due("tip()", x.tip(), 3);
        due("pay(5, 3, 1, -1)", x.pay(5, 3, 1, -1), 6);
        due("undone()", x.undone(), 2);
        due("balance(1)", x.balance(1), 0);
        due("fewestFor(2, 9)", x.fewestFor(2, 9), 2);
        due("meeting(3, 6)", x.meeting(3, 6), 1);
        due("pay(6, 0, 1, -1)", x.pay(6, 0, 1, -1), ChainUndo.UNSOUND);
        due("mint(3, 0, 1)", x.mint(3, 0, 1), 7);
        due("forget(7)", x.forget(7), 7);
        due("mint(7, 0, 1)", x.mint(7, 0, 1), ChainUndo.BAD);
        System.out.println(wrong == 0 ? "all answers are as due" : wrong + " answers are not as due");
        if (wrong != 0) {
            System.exit(1);
        }
    }
}

import java.util.function.Consumer;

/** Promises 31 to 35: ordinary calls, the edges that the document names, each refusal, wrong inputs. */
public final class RowsTest {
    private static final int MAX = Integer.MAX_VALUE;
    private static final int MIN = Integer.MIN_VALUE;
    /** The row of post 0 is 0 1 2 3 4 1. */
    private static final Consumer<DebtNet> SIX = Settings.net(6, "1" + "20" + "300" + "4000" + "10002");
    private static final Consumer<DebtNet> LAID = SIX.andThen(x -> x.lay(0, 0));

    public static void main(String[] args) {
        promise31();
        promise32();
        promise33();
        promise34();
        promise35();
        Check.end("RowsTest");
    }

    private static void promise31() {
        Check.part("promise 31");
        DebtNet x = Settings.made(SIX.andThen(Settings.net(2, "3")).andThen(Settings.path(1)));
        Check.due("lay(0, 0)", x.lay(0, 0), 6);
        Check.due("the row", Check.row(x), "0 1 2 3 4 1");
        Check.due("lay(0, 5)", x.lay(0, 5), 6);
        Check.due("the row", Check.row(x), "1 0 0 0 2 0");
        Check.due("lay(1, 1)", x.lay(1, 1), 2);
        Check.due("the row", Check.row(x), "3 0");
        Check.due("lay(2, 0)", x.lay(2, 0), 1);
        Check.due("the row", Check.row(x), "0");
        x.lay(1, 0);
        x.road(1, 0, 1, 4);
        Check.due("a row that was laid stays", Check.row(x), "0 3");
        for (int wrong : Settings.beside(1)) {
            Check.refused("lay(" + wrong + ", 0)", LAID, y -> y.lay(wrong, 0), DebtNet.BEYOND);
        }
        for (int wrong : Settings.beside(6)) {
            Check.refused("lay(0, " + wrong + ")", LAID, y -> y.lay(0, wrong), DebtNet.BEYOND);
            Check.refused("lay(0, " + wrong + ") without a row", SIX, y -> y.lay(0, wrong), DebtNet.BEYOND);
        }
    }

    private static void promise32() {
        Check.part("promise 32");
        Check.told("tear() at first", SIX, DebtNet::tear, 0);
        DebtNet x = Settings.made(LAID);
        Check.due("tear()", x.tear(), 1);
        Check.due("the row", Check.row(x), "missing");
        Check.due("tear() again", x.tear(), 0);
        Check.due("lay(0, 1)", x.lay(0, 1), 6);
        Check.due("the row", Check.row(x), "1 0 0 0 0 0");
    }

    private static void promise33() {
        Check.part("promise 33");
        int[] row = {0, 1, 2, 3, 4, 1};
        for (int i = 0; i < row.length; i++) {
            int place = i;
            Check.told("row(" + i + ")", LAID, x -> x.row(place), row[i]);
        }
        for (int wrong : Settings.beside(6)) {
            Check.refusedByNought("row(" + wrong + ")", LAID, x -> x.row(wrong), DebtNet.BEYOND);
            Check.refusedByNought("row(" + wrong + ") without a row", SIX, x -> x.row(wrong), DebtNet.MISSING);
        }
        Check.refusedByNought("row(0) without a row", SIX, x -> x.row(0), DebtNet.MISSING);
        Check.refusedByNought("row(0) of a torn row", LAID.andThen(DebtNet::tear), x -> x.row(0), DebtNet.MISSING);
        Consumer<DebtNet> shorter = LAID.andThen(Settings.net(2, "3")).andThen(x -> x.lay(1, 0));
        Check.refusedByNought("row(2) of a shorter row", shorter, x -> x.row(2), DebtNet.BEYOND);
    }

    private static void copies(int i, int j, int n, String due) {
        DebtNet x = Settings.made(LAID);
        Check.due("copy(" + i + ", " + j + ", " + n + ")", x.copy(i, j, n), n);
        Check.due("the row after copy(" + i + ", " + j + ", " + n + ")", Check.row(x), due);
    }

    private static void promise34() {
        Check.part("promise 34");
        copies(0, 1, 5, "0 0 1 2 3 4");
        copies(1, 0, 5, "1 2 3 4 1 1");
        copies(3, 0, 3, "3 4 1 3 4 1");
        copies(0, 0, 6, "0 1 2 3 4 1");
        copies(4, 2, 1, "0 1 4 3 4 1");
        copies(2, 2, 0, "0 1 2 3 4 1");
        copies(6, 6, 0, "0 1 2 3 4 1");
        copies(1, 3, 3, "0 1 2 1 2 3");
        int[][] beyond = {{0, 1, 6}, {1, 0, 6}, {0, 0, 7}, {-1, 0, 1}, {0, -1, 1}, {7, 0, 0}, {0, 7, 0}, {-1, 0, 0}, {0, -1, 0},
            {6, 0, 1}, {0, 6, 1}, {MAX, 0, 1}, {0, MAX, 1}, {MAX, MAX, MAX}, {1, 1, MAX}, {0, 0, MAX}, {MIN, 0, 1}, {0, MIN, 1},
            {MIN, MIN, MAX}, {MAX, 0, 0}};
        for (int[] at : beyond) {
            String call = "copy(" + at[0] + ", " + at[1] + ", " + at[2] + ")";
            Check.refused(call, LAID, x -> x.copy(at[0], at[1], at[2]), DebtNet.COPY);
            Check.refused(call + " without a row", SIX, x -> x.copy(at[0], at[1], at[2]), DebtNet.MISSING);
        }
        for (int n : new int[] {-1, MIN}) {
            Check.refused("copy(0, 0, " + n + ")", LAID, x -> x.copy(0, 0, n), DebtNet.BELOW);
            Check.refused("copy(-1, 9, " + n + ")", LAID, x -> x.copy(-1, 9, n), DebtNet.BELOW);
            Check.refused("copy(0, 0, " + n + ") without a row", SIX, x -> x.copy(0, 0, n), DebtNet.MISSING);
        }
        Consumer<DebtNet> shorter = LAID.andThen(Settings.net(2, "3")).andThen(x -> x.lay(1, 0));
        Check.refused("copy in a shorter row", shorter, x -> x.copy(0, 1, 2), DebtNet.COPY);
    }

    private static void promise35() {
        Check.part("promise 35");
        DebtNet x = Settings.made(LAID.andThen(Settings.book(-2, -3, -4, -5, -6, -7)));
        x.drop();
        x.drop();
        x.drop();
        Check.due("status(MISSING)", x.status(DebtNet.MISSING), 2);
        x.at(0, 0);
        x.degree(7);
        x.burn(0, 0);
        Check.due("status(BEYOND)", x.status(DebtNet.BEYOND), 3);
        x.copy(0, 0, -1);
        Check.due("status(BELOW)", x.status(DebtNet.BELOW), 1);
        x.net(2);
        x.trees(1);
        x.gonality(1);
        Check.due("status(KIND)", x.status(DebtNet.KIND), 2);
        x.copy(0, 0, 7);
        Check.due("status(COPY)", x.status(DebtNet.COPY), 1);
        x.gonality(0);
        Check.due("status(NO)", x.status(DebtNet.NO), 1);
        x.net(1);
        x.net(1);
        x.net(1);
        Check.due("status(FULL)", x.status(DebtNet.FULL), 1);
        Check.due("status(SPENT)", x.status(DebtNet.SPENT), 0);
        for (int wrong : new int[] {DebtNet.NONE, 0, 1, -10, MIN, MAX}) {
            Check.refused("status(" + wrong + ")", LAID, y -> y.status(wrong), DebtNet.NO);
        }
        answersBelowNought();
    }

    /** Answers that look like refusals are not counted: nor is NONE. */
    private static void answersBelowNought() {
        DebtNet x = Settings.made(SIX.andThen(Settings.book(-2, -3, -4, -5, -6, -7)).andThen(Settings.net(6, "")));
        for (int post = 0; post < 6; post++) {
            x.at(0, post);
            x.put(0, post, 0);
        }
        x.put(0, 0, -9);
        x.degree(0);
        x.lend(0, 1, 2);
        x.look(1, 3);
        x.rank(0);
        x.how(0, 0);
        int refused = 0;
        for (int by = DebtNet.SPENT; by <= DebtNet.MISSING; by++) {
            refused += x.status(by);
        }
        Check.due("refused by answers below 0 (rank of genus above 4 alone)", refused, 1);
    }
}

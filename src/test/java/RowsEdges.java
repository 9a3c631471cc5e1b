import java.util.function.Consumer;

/** Edges that the lines of promises 31 to 35 name: each test tells its sentence. */
final class RowsEdges {
    private static final int MIN = Integer.MIN_VALUE;
    private static final int MAX = Integer.MAX_VALUE;
    private static final Consumer<DebtNet> BENCH = Settings.bench();
    private static final Consumer<DebtNet> TORN = Settings.bench().andThen(DebtNet::tear);
    /** The row is 0 1 2 3 4 1. */
    private static final Consumer<DebtNet> SIX = Settings.net(6, "1" + "20" + "300" + "4000" + "10000").andThen(x -> x.lay(0, 0));
    private static final Consumer<DebtNet> ONE = Settings.net(1, "").andThen(x -> x.lay(0, 0));

    private RowsEdges() {
    }

    // ---- promise 31

    @Says(promise = 31, value = "THE ROW becomes ROADS of a POST with each POST, by numbers: how many POSTS.")
    static void aRowOfOneToSix() {
        Check.due("one post", Settings.made(ONE).lay(0, 0), 1);
        Check.due("its row", Check.row(Settings.made(ONE)), "0");
        Check.due("six posts", Settings.made(SIX).lay(0, 0), 6);
        Check.due("their row", Check.row(Settings.made(SIX)), "0 1 2 3 4 1");
        DebtNet x = Settings.made(Settings.net(6, ""));
        Check.due("without roads", x.lay(0, 5), 6);
        Check.due("their row", Check.row(x), "0 0 0 0 0 0");
    }

    @Says(promise = 31, value = "THE ROW becomes ROADS of a POST with each POST, by numbers: how many POSTS.")
    static void aShorterRowHasNothingOfTheLongerOne() {
        DebtNet x = Settings.made(SIX.andThen(Settings.net(1, "")));
        Check.due("lay(1, 0)", x.lay(1, 0), 1);
        Check.due("the row", Check.row(x), "0");
        Check.refusedByNought("row(1)", SIX.andThen(Settings.net(1, "")).andThen(y -> y.lay(1, 0)), y -> y.row(1), DebtNet.BEYOND);
    }

    @Says(promise = 31, value = "BEYOND.")
    static void nothingLaidBeyondAndTheRowStays() {
        for (int wrong : Settings.beside(3)) {
            Check.refused("lay(" + wrong + ", 0)", BENCH, x -> x.lay(wrong, 0), DebtNet.BEYOND);
            Check.refused("lay(0, " + wrong + ")", BENCH, x -> x.lay(0, wrong), DebtNet.BEYOND);
            Check.refused("lay(0, " + wrong + ") without a row", TORN, x -> x.lay(0, wrong), DebtNet.BEYOND);
        }
    }

    // ---- promise 32

    @Says(promise = 32, value = "THE ROW is missing: 1 if it was there, else 0 (at first it is missing).")
    static void atFirstItIsMissing() {
        Check.told("tear() of nothing", Settings.NOTHING, DebtNet::tear, 0);
        Check.refusedByNought("row(0)", Settings.net(3, ""), x -> x.row(0), DebtNet.MISSING);
    }

    @Says(promise = 32, value = "THE ROW is missing: 1 if it was there, else 0 (at first it is missing).")
    static void tornItIsMissingTillOneComesAgain() {
        DebtNet x = Settings.made(BENCH);
        Check.due("tear()", x.tear(), 1);
        Check.due("the row", Check.row(x), "missing");
        Check.due("tear() again", x.tear(), 0);
        x.lay(0, 0);
        Check.due("tear() after lay()", x.tear(), 1);
        x.how(0, 0);
        Check.due("tear() after how()", x.tear(), 1);
        x.why(0);
        Check.due("tear() after why()", x.tear(), 1);
        Check.due("tear() again", x.tear(), 0);
    }

    @Says(promise = 32, value = "THE ROW is missing: 1 if it was there, else 0 (at first it is missing).")
    static void aRefusedCallBringsNoRow() {
        DebtNet x = Settings.made(TORN);
        x.lay(0, 3);
        x.how(0, 2);
        x.why(3);
        x.copy(0, 0, 0);
        x.put(0, 2, 1);
        Check.due("how(0, 1), not like", x.how(0, 1), DebtNet.NONE);
        Check.due("tear()", x.tear(), 0);
    }

    // ---- promise 33

    @Says(promise = 33, value = "Number i of THE ROW.")
    static void theFirstAndTheLast() {
        Check.told("row(0) of one", ONE, x -> x.row(0), 0);
        Check.told("row(0) of three", BENCH, x -> x.row(0), 0);
        Check.told("row(2) of three", BENCH, x -> x.row(2), 2);
        Check.told("row(5) of six", SIX, x -> x.row(5), 1);
    }

    @Says(promise = 33, value = "MISSING: 0;")
    static void aMissingRowTells0() {
        Check.refusedByNought("row(0)", TORN, x -> x.row(0), DebtNet.MISSING);
    }

    @Says(promise = 33, value = "BEYOND: 0, and status() tells of it.")
    static void placesBelow0AndPastTheLastTell0() {
        for (int wrong : Settings.beside(1)) {
            Check.refusedByNought("row(" + wrong + ") of one", ONE, x -> x.row(wrong), DebtNet.BEYOND);
        }
        for (int wrong : Settings.beside(3)) {
            Check.refusedByNought("row(" + wrong + ") of three", BENCH, x -> x.row(wrong), DebtNet.BEYOND);
        }
        for (int wrong : Settings.beside(6)) {
            Check.refusedByNought("row(" + wrong + ") of six", SIX, x -> x.row(wrong), DebtNet.BEYOND);
        }
    }

    @Says(promise = 33, value = "MISSING: 0; BEYOND: 0, and status() tells of it.")
    static void missingIsToldBeforeAPlaceBeyond() {
        for (int wrong : Settings.beside(6)) {
            Check.refusedByNought("row(" + wrong + ")", TORN, x -> x.row(wrong), DebtNet.MISSING);
        }
    }

    // ---- promise 34

    private static void copies(int i, int j, int n, String due) {
        DebtNet x = Settings.made(SIX);
        Check.due("copy(" + i + ", " + j + ", " + n + ")", x.copy(i, j, n), n);
        Check.due("the row after copy(" + i + ", " + j + ", " + n + ")", Check.row(x), due);
    }

    private static void isNoCopy(Consumer<DebtNet> setting, int i, int j, int n, int code) {
        Check.refused("copy(" + i + ", " + j + ", " + n + ")", setting, x -> x.copy(i, j, n), code);
    }

    @Says(promise = 34, value = "n numbers of THE ROW, from place i on, come to its place j on (as they were): n.")
    static void noNumbersAreCopiedFromAnyPlaceToAnyUpToTheEnd() {
        for (int i = 0; i <= 6; i++) {
            for (int j = 0; j <= 6; j++) {
                int from = i;
                int to = j;
                Check.told("copy(" + i + ", " + j + ", 0)", SIX, x -> x.copy(from, to, 0), 0);
            }
        }
    }

    @Says(promise = 34, value = "n numbers of THE ROW, from place i on, come to its place j on (as they were): n.")
    static void allNumbersAreCopiedOntoThemselves() {
        Check.told("six", SIX, x -> x.copy(0, 0, 6), 6);
        Check.told("one", ONE, x -> x.copy(0, 0, 1), 1);
    }

    @Says(promise = 34, value = "n numbers of THE ROW, from place i on, come to its place j on (as they were): n.")
    static void numbersThatAreCopiedOverComeAsTheyWere() {
        copies(0, 1, 5, "0 0 1 2 3 4");
        copies(1, 0, 5, "1 2 3 4 1 1");
        copies(0, 2, 4, "0 1 0 1 2 3");
        copies(2, 0, 4, "2 3 4 1 4 1");
    }

    @Says(promise = 34, value = "n numbers of THE ROW, from place i on, come to its place j on (as they were): n.")
    static void theLastNumberAndToTheLastPlace() {
        copies(5, 0, 1, "1 1 2 3 4 1");
        copies(0, 5, 1, "0 1 2 3 4 0");
    }

    @Says(promise = 34, value = "MISSING, BELOW: n;")
    static void noRowToCopyIn() {
        isNoCopy(TORN, 0, 0, 0, DebtNet.MISSING);
        isNoCopy(TORN, 0, 0, 1, DebtNet.MISSING);
    }

    @Says(promise = 34, value = "MISSING, BELOW: n;")
    static void fewerThan0Numbers() {
        isNoCopy(BENCH, 0, 0, -1, DebtNet.BELOW);
        isNoCopy(BENCH, 2, 2, -1, DebtNet.BELOW);
        isNoCopy(BENCH, 0, 0, MIN, DebtNet.BELOW);
    }

    @Says(promise = 34, value = "COPY: i or j below 0, i + n or j + n above how many there are.")
    static void placesBelow0() {
        for (int below : new int[] {-1, MIN}) {
            for (int n : new int[] {0, 1, 3, MAX}) {
                isNoCopy(BENCH, below, 0, n, DebtNet.COPY);
                isNoCopy(BENCH, 0, below, n, DebtNet.COPY);
                isNoCopy(BENCH, below, below, n, DebtNet.COPY);
            }
        }
    }

    @Says(promise = 34, value = "COPY: i or j below 0, i + n or j + n above how many there are.")
    static void oneMoreThanThereAre() {
        isNoCopy(BENCH, 0, 0, 4, DebtNet.COPY);
        isNoCopy(BENCH, 1, 0, 3, DebtNet.COPY);
        isNoCopy(BENCH, 0, 1, 3, DebtNet.COPY);
        isNoCopy(BENCH, 3, 0, 1, DebtNet.COPY);
        isNoCopy(BENCH, 0, 3, 1, DebtNet.COPY);
        isNoCopy(BENCH, 4, 0, 0, DebtNet.COPY);
        isNoCopy(BENCH, 0, 4, 0, DebtNet.COPY);
        isNoCopy(ONE, 0, 1, 1, DebtNet.COPY);
        isNoCopy(ONE, 1, 0, 1, DebtNet.COPY);
    }

    @Says(promise = 34, value = "COPY: i or j below 0, i + n or j + n above how many there are.")
    static void sumsThatWrapAroundAreAboveToo() {
        // MAX and 1 is the least int, MAX and MAX is -2.
        for (int n : new int[] {0, 1, 2, 3, MAX - 1, MAX}) {
            isNoCopy(BENCH, MAX, 0, n, DebtNet.COPY);
            isNoCopy(BENCH, 0, MAX, n, DebtNet.COPY);
            isNoCopy(BENCH, MAX, MAX, n, DebtNet.COPY);
        }
        for (int place = 0; place <= 3; place++) {
            isNoCopy(BENCH, place, 0, MAX, DebtNet.COPY);
            isNoCopy(BENCH, 0, place, MAX, DebtNet.COPY);
            isNoCopy(BENCH, place, place, MAX, DebtNet.COPY);
        }
    }

    @Says(promise = 34, value = "MISSING, BELOW: n; COPY: i or j below 0, i + n or j + n above how many there are.")
    static void missingThenBelowThenCopy() {
        for (int n : new int[] {-1, MIN}) {
            isNoCopy(TORN, 0, 0, n, DebtNet.MISSING);
            isNoCopy(TORN, -1, 9, n, DebtNet.MISSING);
            isNoCopy(BENCH, -1, 0, n, DebtNet.BELOW);
            isNoCopy(BENCH, 0, -1, n, DebtNet.BELOW);
            isNoCopy(BENCH, MAX, 0, n, DebtNet.BELOW);
            isNoCopy(BENCH, 0, MAX, n, DebtNet.BELOW);
        }
        isNoCopy(TORN, 0, 0, 4, DebtNet.MISSING);
        isNoCopy(TORN, -1, 0, 0, DebtNet.MISSING);
        isNoCopy(TORN, MAX, MAX, MAX, DebtNet.MISSING);
    }

    // ---- promise 35

    @Says(promise = 35, value = "How many calls were refused by an answer -2 .. -9 (of those that tell 0 by what they tell).")
    static void eachOfTheEightIsCountedByItself() {
        for (int code = DebtNet.SPENT; code <= DebtNet.MISSING; code++) {
            DebtNet x = Settings.made(Settings.greatOn(Settings.path(3), 100000, 0).andThen(y -> y.put(9, 2, 1)));
            Check.due("the first refusal", refuseBy(x, code), code);
            Check.due("the second refusal", refuseBy(x, code), code);
            for (int by = DebtNet.SPENT; by <= DebtNet.MISSING; by++) {
                Check.due("status(" + by + ")", x.status(by), by == code ? 2 : 0);
            }
        }
    }

    /** A call on the path of 3 whose book 9 is 100000 0 1: refused so, as often as it is made. */
    private static int refuseBy(DebtNet x, int code) {
        switch (code) {
            case DebtNet.MISSING:
                return x.copy(0, 0, 0);
            case DebtNet.BEYOND:
                return x.good(10);
            case DebtNet.BELOW:
                x.lay(0, 0);
                return x.copy(0, 0, -1);
            case DebtNet.KIND:
                return x.gonality(x.net(2));
            case DebtNet.COPY:
                x.lay(0, 0);
                return x.copy(0, 0, 4);
            case DebtNet.NO:
                return x.count(2);
            case DebtNet.FULL:
                return x.lendAll(9, 2);
            default:
                return x.fall(9, 1);
        }
    }

    @Says(promise = 35, value = "How many calls were refused by an answer -2 .. -9 (of those that tell 0 by what they tell).")
    static void callsThatTell0AreCountedByWhatTheyTell() {
        DebtNet x = Settings.made(TORN);
        x.row(0);
        Check.due("status(MISSING)", x.status(DebtNet.MISSING), 1);
        x.trees(1);
        x.factor(1, 0);
        x.resist(1, 0, 1, true);
        x.order(2);
        Check.due("status(KIND)", x.status(DebtNet.KIND), 4);
        x.put(0, 0, 301);
        x.lend(0, 0, 101);
        x.order(0);
        Check.due("status(NO)", x.status(DebtNet.NO), 3);
        x.put(0, 3, 0);
        x.at(0, 3);
        x.degree(4);
        x.lend(4, 0, 0);
        x.factor(0, 2);
        x.lay(0, 0);
        x.row(3);
        Check.due("status(BEYOND)", x.status(DebtNet.BEYOND), 6);
    }

    @Says(promise = 35, value = "How many calls were refused by an answer -2 .. -9 (of those that tell 0 by what they tell).")
    static void minus1IsNoRefusalNorAreNumbersBelow0() {
        DebtNet x = Settings.made(Settings.net(6, "").andThen(Settings.book(-2, -3, -4, -5, -6, -7)).andThen(Settings.ring(3))
                .andThen(Settings.book(1, -1, 0)).andThen(Settings.book()));
        Check.due("rank(1)", x.rank(1), -1);
        Check.due("how(1, 2)", x.how(1, 2), DebtNet.NONE);
        Check.due("look(0, 3)", x.look(0, 3), -5);
        Check.due("degree(0)", x.degree(0), -27);
        for (int post = 0; post < 6; post++) {
            Check.due("at", x.at(0, post), -2 - post);
            Check.due("lend", x.lend(0, post, 1), -2 - post);
            Check.due("put", x.put(0, post, 0), -2 - post);
        }
        for (int by = DebtNet.SPENT; by <= DebtNet.MISSING; by++) {
            Check.due("status(" + by + ")", x.status(by), 0);
        }
    }

    @Says(promise = 35, value = "NO: another number.")
    static void numbersBesideMinus2ToMinus9AreNotAsTold() {
        for (int wrong : new int[] {-1, -10, 0, 1, 2, 9, MIN, MAX}) {
            Check.refused("status(" + wrong + ")", BENCH, x -> x.status(wrong), DebtNet.NO);
        }
    }

    @Says(promise = 35, value = "NO: another number.")
    static void aRefusedStatusIsCountedToo() {
        DebtNet x = Settings.made(BENCH);
        Check.due("status(-10)", x.status(-10), DebtNet.NO);
        Check.due("status(-1)", x.status(-1), DebtNet.NO);
        Check.due("status(NO)", x.status(DebtNet.NO), 2);
        Check.due("status(NO) is not counted", x.status(DebtNet.NO), 2);
    }
}

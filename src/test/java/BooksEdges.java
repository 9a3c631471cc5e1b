import java.util.function.Consumer;

/** Edges that the lines of promises 10 to 19 name: each test tells its sentence. */
final class BooksEdges {
    private static final int MIN = Integer.MIN_VALUE;
    private static final int MAX = Integer.MAX_VALUE;
    private static final Consumer<DebtNet> BENCH = Settings.bench();
    private static final Consumer<DebtNet> FULL_BENCH = Settings.fullBench();

    private BooksEdges() {
    }

    // ---- promise 10

    @Says(promise = 10, value = "A BOOK of a NET: its number.")
    static void aBookComesOnWholeNetsAndOthers() {
        for (int net = 0; net < 3; net++) {
            DebtNet x = Settings.made(BENCH);
            Check.due("book(" + net + ")", x.book(net), 4);
            Check.due("the book", Check.book(x, 4, 3), "0 0 0");
        }
    }

    @Says(promise = 10, value = "A BOOK of a NET: its number.")
    static void aBookThatComesWhereOneWentHasNoughts() {
        DebtNet x = Settings.made(FULL_BENCH);
        x.put(9, 0, 300);
        x.drop();
        Check.due("book(1)", x.book(1), 9);
        Check.due("the book", Check.book(x, 9, 6), "0 0 0 0 0 0");
    }

    @Says(promise = 10, value = "BEYOND, FULL.")
    static void aBookOfANetBeyond() {
        for (int wrong : Settings.beside(3)) {
            Check.refused("book(" + wrong + ")", BENCH, x -> x.book(wrong), DebtNet.BEYOND);
        }
    }

    @Says(promise = 10, value = "BEYOND, FULL.")
    static void theTenthBookHasRoomAndTheEleventhHasNone() {
        DebtNet x = Settings.made(FULL_BENCH);
        x.drop();
        Check.due("a tenth", x.book(3), 9);
        for (int each = 0; each < 4; each++) {
            int net = each;
            Check.refused("an eleventh of net " + net, FULL_BENCH, y -> y.book(net), DebtNet.FULL);
        }
    }

    @Says(promise = 10, value = "BEYOND, FULL.")
    static void anEleventhBookOfANetBeyondIsBeyondFirst() {
        for (int wrong : Settings.beside(4)) {
            Check.refused("book(" + wrong + ")", FULL_BENCH, x -> x.book(wrong), DebtNet.BEYOND);
        }
    }

    // ---- promise 11

    @Says(promise = 11, value = "A POST's number is told (-300 .. 300): the one before.")
    static void numbersFromMinus300To300AreTaken() {
        DebtNet x = Settings.made(BENCH);
        Check.due("put(0, 2, 300)", x.put(0, 2, 300), 0);
        Check.due("put(0, 2, -300)", x.put(0, 2, -300), 300);
        Check.due("put(0, 2, 0)", x.put(0, 2, 0), -300);
        Check.due("at(0, 2)", x.at(0, 2), 0);
    }

    @Says(promise = 11, value = "A POST's number is told (-300 .. 300): the one before.")
    static void theOneBeforeMayBe100000OrLookLikeARefusal() {
        Check.due("100000", Settings.made(Settings.great(100000, 0)).put(9, 0, 1), 100000);
        Check.due("-100000", Settings.made(Settings.great(-100000, 0)).put(9, 0, 1), -100000);
        DebtNet x = Settings.made(BENCH);
        int[] counts = Check.counts(x);
        Check.due("-6", x.put(2, 5, -3), -6);
        Check.due("-3", x.put(2, 5, -3), -3);
        Check.due("no refusal", java.util.Arrays.toString(Check.counts(x)), java.util.Arrays.toString(counts));
    }

    @Says(promise = 11, value = "BEYOND (BOOK, POST): 0;")
    static void aBookOrAPostBeyondTells0() {
        for (int wrong : Settings.beside(4)) {
            Check.refusedByNought("put(" + wrong + ", 0, 1)", BENCH, x -> x.put(wrong, 0, 1), DebtNet.BEYOND);
        }
        for (int wrong : Settings.beside(3)) {
            Check.refusedByNought("put(0, " + wrong + ", 1)", BENCH, x -> x.put(0, wrong, 1), DebtNet.BEYOND);
        }
    }

    @Says(promise = 11, value = "NO: v: 0, and status() tells of it.")
    static void numbersBelowMinus300AndAbove300Tell0() {
        for (int wrong : new int[] {301, -301, MIN, MAX}) {
            Check.refusedByNought("put(0, 0, " + wrong + ")", BENCH, x -> x.put(0, 0, wrong), DebtNet.NO);
        }
    }

    @Says(promise = 11, value = "BEYOND (BOOK, POST): 0; NO: v: 0, and status() tells of it.")
    static void aPlaceBeyondIsToldBeforeAWrongNumber() {
        for (int wrong : new int[] {301, -301, MIN, MAX}) {
            Check.refusedByNought("a book beyond", BENCH, x -> x.put(4, 0, wrong), DebtNet.BEYOND);
            Check.refusedByNought("a post beyond", BENCH, x -> x.put(0, 3, wrong), DebtNet.BEYOND);
        }
    }

    // ---- promise 12

    @Says(promise = 12, value = "A POST's number.")
    static void numbersFromMinus100000To100000() {
        Check.told("100000", Settings.great(100000, 0), x -> x.at(9, 0), 100000);
        Check.told("-100000", Settings.great(-100000, 0), x -> x.at(9, 0), -100000);
        Check.told("-6, no refusal", BENCH, x -> x.at(2, 5), -6);
    }

    @Says(promise = 12, value = "BEYOND: 0 likewise.")
    static void noNumberBeyond() {
        for (int wrong : Settings.beside(4)) {
            Check.refusedByNought("at(" + wrong + ", 0)", BENCH, x -> x.at(wrong, 0), DebtNet.BEYOND);
        }
        for (int wrong : Settings.beside(3)) {
            Check.refusedByNought("at(0, " + wrong + ")", BENCH, x -> x.at(0, wrong), DebtNet.BEYOND);
        }
        for (int wrong : Settings.beside(6)) {
            Check.refusedByNought("at(2, " + wrong + ")", BENCH, x -> x.at(2, wrong), DebtNet.BEYOND);
        }
    }

    // ---- promise 13

    @Says(promise = 13, value = "DEGREE of a BOOK.")
    static void aDegreeMayBe0OrBelow() {
        Check.told("degree(0)", BENCH, x -> x.degree(0), 3);
        Check.told("0", Settings.path(2).andThen(Settings.book(300, -300)), x -> x.degree(0), 0);
        Check.told("-3, no refusal", Settings.path(2).andThen(Settings.book(-1, -2)), x -> x.degree(0), -3);
    }

    @Says(promise = 13, value = "BEYOND: 0 likewise.")
    static void noDegreeBeyond() {
        for (int wrong : Settings.beside(4)) {
            Check.refusedByNought("degree(" + wrong + ")", BENCH, x -> x.degree(wrong), DebtNet.BEYOND);
        }
    }

    // ---- promise 14

    @Says(promise = 14, value = "Whether a BOOK is GOOD: 1, 0.")
    static void goodIs1AndADebtIs0() {
        Check.told("good(1)", BENCH, x -> x.good(1), 1);
        Check.told("good(0)", BENCH, x -> x.good(0), 0);
        Check.told("a net that is not whole", BENCH, x -> x.good(2), 0);
    }

    @Says(promise = 14, value = "BEYOND.")
    static void nothingGoodBeyond() {
        for (int wrong : Settings.beside(4)) {
            Check.refused("good(" + wrong + ")", BENCH, x -> x.good(wrong), DebtNet.BEYOND);
        }
    }

    // ---- promise 15

    @Says(promise = 15, value = "A POST LENDS so many times (below 0: borrows; -100 .. 100): its number then.")
    static void timesFromMinus100To100AreTaken() {
        DebtNet x = Settings.made(BENCH);
        Check.due("lend(0, 0, 100)", x.lend(0, 0, 100), 5 - 300);
        Check.due("the book", Check.book(x, 0, 3), "-295 198 100");
        Check.due("lend(0, 0, -100)", x.lend(0, 0, -100), 5);
        Check.due("the book", Check.book(x, 0, 3), "5 -2 0");
        Check.due("lend(0, 1, 0)", x.lend(0, 1, 0), -2);
        Check.due("the book", Check.book(x, 0, 3), "5 -2 0");
    }

    @Says(promise = 15, value = "A POST LENDS so many times (below 0: borrows; -100 .. 100): its number then.")
    static void aNumberThenThatLooksLikeARefusalIsNone() {
        Check.told("-2", BENCH, x -> x.lend(0, 1, 0), -2);
        DebtNet x = Settings.made(Settings.path(2).andThen(Settings.book(0, 0)));
        for (int due = -1; due >= -9; due--) {
            Check.due("lend(0, 0, 1)", x.lend(0, 0, 1), due);
        }
        Check.due("no refusal", java.util.Arrays.toString(Check.counts(x)), "[0, 0, 0, 0, 0, 0, 0, 0]");
    }

    @Says(promise = 15, value = "BEYOND (BOOK, POST): 0;")
    static void noLendsBeyond() {
        for (int wrong : Settings.beside(4)) {
            Check.refusedByNought("lend(" + wrong + ", 0, 1)", BENCH, x -> x.lend(wrong, 0, 1), DebtNet.BEYOND);
        }
        for (int wrong : Settings.beside(3)) {
            Check.refusedByNought("lend(0, " + wrong + ", 1)", BENCH, x -> x.lend(0, wrong, 1), DebtNet.BEYOND);
            Check.refusedByNought("no times", BENCH, x -> x.lend(0, wrong, 0), DebtNet.BEYOND);
        }
    }

    @Says(promise = 15, value = "NO: 0;")
    static void timesBelowMinus100AndAbove100Tell0() {
        for (int wrong : new int[] {101, -101, MIN, MAX}) {
            Check.refusedByNought("lend(0, 0, " + wrong + ")", BENCH, x -> x.lend(0, 0, wrong), DebtNet.NO);
        }
    }

    @Says(promise = 15, value = "FULL: 0 likewise.")
    static void aLendTo100000IsTakenAndTo100001IsNot() {
        DebtNet x = Settings.made(Settings.great(99900, 0));
        Check.due("lend(9, 1, 100)", x.lend(9, 1, 100), -100);
        Check.due("at(9, 0)", x.at(9, 0), 100000);
        Check.refusedByNought("one more", Settings.great(99901, 0), y -> y.lend(9, 1, 100), DebtNet.FULL);
        x = Settings.made(Settings.great(99900, 0));
        Check.due("lend(9, 0, -100)", x.lend(9, 0, -100), 100000);
        Check.refusedByNought("one more", Settings.great(99901, 0), y -> y.lend(9, 0, -100), DebtNet.FULL);
    }

    @Says(promise = 15, value = "FULL: 0 likewise.")
    static void aLendToMinus100000IsTakenAndToMinus100001IsNot() {
        DebtNet x = Settings.made(Settings.great(-99900, 0));
        Check.due("lend(9, 0, 100)", x.lend(9, 0, 100), -100000);
        Check.refusedByNought("one more", Settings.great(-99901, 0), y -> y.lend(9, 0, 100), DebtNet.FULL);
        x = Settings.made(Settings.great(-99900, 0));
        Check.due("lend(9, 1, -100)", x.lend(9, 1, -100), 100);
        Check.due("at(9, 0)", x.at(9, 0), -100000);
        Check.refusedByNought("one more", Settings.great(-99901, 0), y -> y.lend(9, 1, -100), DebtNet.FULL);
    }

    @Says(promise = 15, value = "BEYOND (BOOK, POST): 0; NO: 0; FULL: 0 likewise.")
    static void beyondThenNoThenFull() {
        for (int wrong : new int[] {101, -101, MIN, MAX}) {
            Check.refusedByNought("a book beyond and times", BENCH, x -> x.lend(4, 0, wrong), DebtNet.BEYOND);
            Check.refusedByNought("a post beyond and times", BENCH, x -> x.lend(0, 3, wrong), DebtNet.BEYOND);
        }
        Check.refusedByNought("times and a number beyond", Settings.great(100000, 0), x -> x.lend(9, 1, 101), DebtNet.NO);
        Check.refusedByNought("times and a number beyond", Settings.great(-100000, 0), x -> x.lend(9, 1, -101), DebtNet.NO);
    }

    // ---- promise 16

    @Says(promise = 16, value = "A set of POSTS (bits) LENDS: how many numbers are others then.")
    static void setsFromNoneToAll() {
        Check.told("none of 6", BENCH, x -> x.lendAll(2, 0), 0);
        Check.told("all of 6", BENCH, x -> x.lendAll(2, 63), 0);
        Check.told("the only post", Settings.path(1).andThen(Settings.book(1)), x -> x.lendAll(0, 1), 0);
        DebtNet x = Settings.made(Settings.all(6, 4).andThen(Settings.book()));
        Check.due("the last post", x.lendAll(0, 32), 6);
        Check.due("the book", Check.book(x, 0, 6), "4 4 4 4 4 -20");
    }

    @Says(promise = 16, value = "A set of POSTS (bits) LENDS: how many numbers are others then.")
    static void aNumberThatGainsWhatItLendsIsNoOther() {
        DebtNet x = Settings.made(Settings.path(3).andThen(Settings.book(0, 0, 0)));
        Check.due("lendAll(0, 3)", x.lendAll(0, 3), 2);
        Check.due("the book", Check.book(x, 0, 3), "0 -1 1");
    }

    @Says(promise = 16, value = "BEYOND (BOOK, bits), FULL.")
    static void aBookBeyondLendsNothing() {
        for (int wrong : Settings.beside(4)) {
            Check.refused("lendAll(" + wrong + ", 0)", BENCH, x -> x.lendAll(wrong, 0), DebtNet.BEYOND);
        }
    }

    @Says(promise = 16, value = "BEYOND (BOOK, bits), FULL.")
    static void bitsOfPostsBeyond() {
        for (int n = 1; n <= 6; n++) {
            for (int wrong : Settings.beside(1 << n)) {
                Check.refused("lendAll(0, " + wrong + ") of " + n, Settings.path(n).andThen(Settings.book()),
                        x -> x.lendAll(0, wrong), DebtNet.BEYOND);
            }
        }
    }

    @Says(promise = 16, value = "BEYOND (BOOK, bits), FULL.")
    static void upTo100000AndNotTo100001() {
        DebtNet x = Settings.made(Settings.great(99999, 0));
        Check.due("lendAll(9, 2)", x.lendAll(9, 2), 2);
        Check.due("the book", Check.book(x, 9, 2), "100000 -1");
        Check.refused("one more", Settings.great(100000, 0), y -> y.lendAll(9, 2), DebtNet.FULL);
    }

    @Says(promise = 16, value = "BEYOND (BOOK, bits), FULL.")
    static void downToMinus100000AndNotToMinus100001() {
        DebtNet x = Settings.made(Settings.great(-99999, 0));
        Check.due("lendAll(9, 1)", x.lendAll(9, 1), 2);
        Check.due("the book", Check.book(x, 9, 2), "-100000 1");
        Check.refused("one more", Settings.great(-100000, 0), y -> y.lendAll(9, 1), DebtNet.FULL);
    }

    @Says(promise = 16, value = "BEYOND (BOOK, bits), FULL.")
    static void bitsBeyondAreToldBeforeANumberBeyond() {
        for (int wrong : new int[] {6, -2, MIN + 2, MAX - 1}) {
            Check.refused("lendAll(9, " + wrong + ")", Settings.great(100000, 0), x -> x.lendAll(9, wrong), DebtNet.BEYOND);
        }
    }

    // ---- promise 17

    @Says(promise = 17, value = "A BOOK comes: OWN of a NET: its number.")
    static void postsWithoutRoadsHaveMinus2() {
        DebtNet x = Settings.made(BENCH);
        Check.due("own(1)", x.own(1), 4);
        Check.due("the book", Check.book(x, 4, 6), "6 6 6 -2 -2 -2");
    }

    @Says(promise = 17, value = "BEYOND, FULL.")
    static void nothingOwnOfANetBeyond() {
        for (int wrong : Settings.beside(3)) {
            Check.refused("own(" + wrong + ")", BENCH, x -> x.own(wrong), DebtNet.BEYOND);
        }
    }

    @Says(promise = 17, value = "BEYOND, FULL.")
    static void aTenthOwnHasRoomAndAnEleventhHasNone() {
        DebtNet x = Settings.made(FULL_BENCH);
        x.drop();
        Check.due("a tenth", x.own(3), 9);
        Check.refused("an eleventh", FULL_BENCH, y -> y.own(3), DebtNet.FULL);
    }

    @Says(promise = 17, value = "BEYOND, FULL.")
    static void anEleventhOwnOfANetBeyondIsBeyondFirst() {
        for (int wrong : Settings.beside(4)) {
            Check.refused("own(" + wrong + ")", FULL_BENCH, x -> x.own(wrong), DebtNet.BEYOND);
        }
    }

    // ---- promise 18

    @Says(promise = 18, value = "A BOOK comes: two added (less: the other one taken away): its number.")
    static void aBookWithItselfIsTwiceItOrNoughts() {
        DebtNet x = Settings.made(BENCH);
        Check.due("sum(0, 0, false)", x.sum(0, 0, false), 4);
        Check.due("the book", Check.book(x, 4, 3), "10 -4 0");
        Check.due("sum(0, 0, true)", x.sum(0, 0, true), 5);
        Check.due("the book", Check.book(x, 5, 3), "0 0 0");
        Check.due("sum(0, 1, true)", x.sum(0, 1, true), 6);
        Check.due("the book", Check.book(x, 6, 3), "4 -3 -1");
        Check.due("sum(2, 2, false) of a net that is not whole", x.sum(2, 2, false), 7);
    }

    @Says(promise = 18, value = "BEYOND, NO: they are of unlike NETS; FULL.")
    static void sumsOfBooksBeyond() {
        for (boolean less : new boolean[] {false, true}) {
            for (int wrong : Settings.beside(4)) {
                Check.refused("sum(" + wrong + ", 0)", BENCH, x -> x.sum(wrong, 0, less), DebtNet.BEYOND);
                Check.refused("sum(0, " + wrong + ")", BENCH, x -> x.sum(0, wrong, less), DebtNet.BEYOND);
                Check.refused("sum of both", BENCH, x -> x.sum(wrong, wrong, less), DebtNet.BEYOND);
            }
        }
    }

    @Says(promise = 18, value = "BEYOND, NO: they are of unlike NETS; FULL.")
    static void sumsOfUnlikeNetsEvenWithTheSameRoads() {
        Consumer<DebtNet> twins = Settings.ring(3).andThen(Settings.book(1)).andThen(Settings.ring(3)).andThen(Settings.book(1));
        for (boolean less : new boolean[] {false, true}) {
            Check.refused("sum(0, 3)", BENCH, x -> x.sum(0, 3, less), DebtNet.NO);
            Check.refused("sum of twins", twins, x -> x.sum(0, 1, less), DebtNet.NO);
        }
    }

    @Says(promise = 18, value = "BEYOND, NO: they are of unlike NETS; FULL.")
    static void aTenthSumHasRoomAndAnEleventhHasNone() {
        for (boolean less : new boolean[] {false, true}) {
            DebtNet x = Settings.made(FULL_BENCH);
            x.drop();
            Check.due("a tenth", x.sum(0, 1, less), 9);
            Check.refused("an eleventh", FULL_BENCH, y -> y.sum(0, 1, less), DebtNet.FULL);
        }
    }

    /** Two books of the fullest net, with these numbers at post 0. */
    private static Consumer<DebtNet> heaps(int first, int second) {
        return Settings.all(6, 4).andThen(Settings.heap(first)).andThen(Settings.heap(second));
    }

    private static void comes(String name, Consumer<DebtNet> two, boolean less, int due) {
        DebtNet x = Settings.made(two);
        Check.due(name, x.sum(0, 1, less), 2);
        Check.due(name + ": its number", x.at(2, 0), due);
    }

    @Says(promise = 18, value = "BEYOND, NO: they are of unlike NETS; FULL.")
    static void aSumOf100000IsTakenAndOf100001IsNot() {
        comes("50000 and 50000", heaps(50000, 50000), false, 100000);
        comes("50000 less -50000", heaps(50000, -50000), true, 100000);
        Check.refused("50000 and 50001", heaps(50000, 50001), x -> x.sum(0, 1, false), DebtNet.FULL);
        Check.refused("50000 less -50001", heaps(50000, -50001), x -> x.sum(0, 1, true), DebtNet.FULL);
    }

    @Says(promise = 18, value = "BEYOND, NO: they are of unlike NETS; FULL.")
    static void aSumOfMinus100000IsTakenAndOfMinus100001IsNot() {
        comes("-50000 and -50000", heaps(-50000, -50000), false, -100000);
        comes("-50000 less 50000", heaps(-50000, 50000), true, -100000);
        Check.refused("-50000 and -50001", heaps(-50000, -50001), x -> x.sum(0, 1, false), DebtNet.FULL);
        Check.refused("-50000 less 50001", heaps(-50000, 50001), x -> x.sum(0, 1, true), DebtNet.FULL);
    }

    @Says(promise = 18, value = "BEYOND, NO: they are of unlike NETS; FULL.")
    static void aSumOfAllThatIsGreatestIsFull() {
        Check.refused("each number twice 100000", Settings.brim(1), x -> x.sum(2, 2, false), DebtNet.FULL);
        Check.refused("each number twice -100000", Settings.brim(-1), x -> x.sum(2, 2, false), DebtNet.FULL);
        DebtNet x = Settings.made(Settings.brim(1));
        Check.due("each number less itself", x.sum(2, 2, true), 3);
        Check.due("the book", Check.book(x, 3, 6), "0 0 0 0 0 0");
    }

    @Says(promise = 18, value = "BEYOND, NO: they are of unlike NETS; FULL.")
    static void beyondThenUnlikeNetsThenFull() {
        for (boolean less : new boolean[] {false, true}) {
            for (int wrong : Settings.beside(10)) {
                Check.refused("beyond, no room", FULL_BENCH, x -> x.sum(0, wrong, less), DebtNet.BEYOND);
                Check.refused("beyond, no room", FULL_BENCH, x -> x.sum(wrong, 0, less), DebtNet.BEYOND);
            }
            Check.refused("unlike nets, no room", FULL_BENCH, x -> x.sum(0, 2, less), DebtNet.NO);
        }
        Check.refused("unlike nets, a number beyond", heaps(60000, 1).andThen(Settings.all(6, 4)).andThen(twinHeap(60000)),
                x -> x.sum(0, 2, false), DebtNet.NO);
    }

    /** A book of net 1, the twin of net 0, with this number at post 0. */
    private static Consumer<DebtNet> twinHeap(int number) {
        return x -> {
            int book = x.book(1);
            for (int call = 0; call < number / 2000; call++) {
                x.lend(book, 0, -100);
            }
        };
    }

    // ---- promise 19

    @Says(promise = 19, value = "The latest BOOK goes: how many there are.")
    static void fromTenBooksToNone() {
        DebtNet x = Settings.made(FULL_BENCH);
        for (int left = 9; left >= 0; left--) {
            Check.due("drop()", x.drop(), left);
            Check.due("count(1)", x.count(1), left);
            Check.due("at of the one that went", x.at(left, 0), 0);
        }
        Check.due("those were beyond", x.status(DebtNet.BEYOND), 10);
    }

    @Says(promise = 19, value = "MISSING.")
    static void noBookToDrop() {
        Check.refused("nothing at all", Settings.NOTHING, DebtNet::drop, DebtNet.MISSING);
        Check.refused("all dropped", Settings.ring(3).andThen(x -> x.lay(0, 0)).andThen(Settings.book(1)).andThen(DebtNet::drop),
                DebtNet::drop, DebtNet.MISSING);
    }
}

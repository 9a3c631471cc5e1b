import java.util.function.Consumer;

/** Promises 10 to 19: ordinary calls, the edges that the document names, each refusal, wrong inputs. */
public final class BooksTest {
    private static final Consumer<DebtNet> SOME = Settings.net(3, "240").andThen(Settings.book(5, -2, 0));
    private static final Consumer<DebtNet> TEN = Settings.net(3, "111").andThen(x -> {
        for (int book = 0; book < 10; book++) {
            x.book(0);
        }
    });

    public static void main(String[] args) {
        promise10();
        promise11();
        promise12();
        promise13();
        promise14();
        promise15();
        promise16();
        promise17();
        promise18();
        promise19();
        Check.end("BooksTest");
    }

    private static void promise10() {
        Check.part("promise 10");
        DebtNet x = Settings.made(Settings.ring(3).andThen(Settings.path(2)));
        for (int book = 0; book < 10; book++) {
            Check.due("book", x.book(book % 2), book);
        }
        Check.due("count(1)", x.count(1), 10);
        Check.due("a new book", Check.book(x, 2, 3), "0 0 0");
        x.put(9, 0, 7);
        x.put(9, 1, 7);
        x.drop();
        Check.due("a book after a drop", x.book(0), 9);
        Check.due("a new book where one was", Check.book(x, 9, 3), "0 0 0");
        Check.told("book of a net that is not whole", Settings.net(4, ""), y -> y.book(0) + y.drop(), 0);
        for (int wrong : Settings.beside(1)) {
            Check.refused("book(" + wrong + ")", Settings.ring(3), y -> y.book(wrong), DebtNet.BEYOND);
            Check.refused("book(" + wrong + "), an eleventh", TEN, y -> y.book(wrong), DebtNet.BEYOND);
        }
        Check.refused("book(0) of no net", Settings.NOTHING, y -> y.book(0), DebtNet.BEYOND);
        Check.refused("book(0), an eleventh", TEN, y -> y.book(0), DebtNet.FULL);
    }

    private static void promise11() {
        Check.part("promise 11");
        DebtNet x = Settings.made(SOME.andThen(Settings.book(1, 1, 1)));
        Check.due("put(0, 0, 300)", x.put(0, 0, 300), 5);
        Check.due("put(0, 0, -300)", x.put(0, 0, -300), 300);
        Check.due("put(0, 0, 0)", x.put(0, 0, 0), -300);
        Check.due("put(0, 1, -7)", x.put(0, 1, -7), -2);
        Check.due("put(0, 2, 4)", x.put(0, 2, 4), 0);
        Check.due("the book", Check.book(x, 0, 3), "0 -7 4");
        Check.due("the other", Check.book(x, 1, 3), "1 1 1");
        Check.due("an answer is no refusal", x.status(DebtNet.MISSING), 0);
        for (int wrong : Settings.beside(1)) {
            Check.refusedByNought("put(" + wrong + ", 0, 301)", SOME, y -> y.put(wrong, 0, 301), DebtNet.BEYOND);
        }
        for (int wrong : Settings.beside(3)) {
            Check.refusedByNought("put(0, " + wrong + ", 1)", SOME, y -> y.put(0, wrong, 1), DebtNet.BEYOND);
        }
        for (int wrong : new int[] {301, -301, Integer.MIN_VALUE, Integer.MAX_VALUE}) {
            Check.refusedByNought("put(0, 0, " + wrong + ")", SOME, y -> y.put(0, 0, wrong), DebtNet.NO);
        }
    }

    private static void promise12() {
        Check.part("promise 12");
        Check.told("at(0, 0)", SOME, x -> x.at(0, 0), 5);
        Check.told("at(0, 1)", SOME, x -> x.at(0, 1), -2);
        Check.told("at(0, 2)", SOME, x -> x.at(0, 2), 0);
        for (int wrong : Settings.beside(1)) {
            Check.refusedByNought("at(" + wrong + ", 0)", SOME, x -> x.at(wrong, 0), DebtNet.BEYOND);
        }
        for (int wrong : Settings.beside(3)) {
            Check.refusedByNought("at(0, " + wrong + ")", SOME, x -> x.at(0, wrong), DebtNet.BEYOND);
        }
    }

    private static void promise13() {
        Check.part("promise 13");
        Check.told("degree(0)", SOME, x -> x.degree(0), 3);
        Check.told("degree of debts", Settings.path(6).andThen(Settings.book(-1, -2, -3, 0, 0, 1)), x -> x.degree(0), -5);
        Check.told("degree of -2", Settings.path(1).andThen(Settings.book(-2)), x -> x.degree(0), -2);
        Check.told("a great degree", Settings.great(100000, 300), x -> x.degree(9), 100300);
        for (int wrong : Settings.beside(1)) {
            Check.refusedByNought("degree(" + wrong + ")", SOME, x -> x.degree(wrong), DebtNet.BEYOND);
        }
    }

    private static void promise14() {
        Check.part("promise 14");
        Check.told("good of goods and a debt", SOME, x -> x.good(0), 0);
        Check.told("good of noughts", Settings.path(3).andThen(Settings.book()), x -> x.good(0), 1);
        Check.told("good of goods", Settings.path(3).andThen(Settings.book(0, 3, 1)), x -> x.good(0), 1);
        Check.told("good of a debt at the first post", Settings.path(3).andThen(Settings.book(-1, 3, 1)), x -> x.good(0), 0);
        Check.told("good of a debt at the last post", Settings.path(6).andThen(Settings.book(1, 3, 1, 1, 1, -1)), x -> x.good(0), 0);
        for (int wrong : Settings.beside(1)) {
            Check.refused("good(" + wrong + ")", SOME, x -> x.good(wrong), DebtNet.BEYOND);
        }
    }

    private static void promise15() {
        Check.part("promise 15");
        DebtNet x = Settings.made(SOME);
        Check.due("lend(0, 0, 2)", x.lend(0, 0, 2), -7);
        Check.due("the book", Check.book(x, 0, 3), "-7 2 8");
        Check.due("lend(0, 1, -1)", x.lend(0, 1, -1), 4);
        Check.due("the book", Check.book(x, 0, 3), "-9 4 8");
        Check.due("lend(0, 2, 0)", x.lend(0, 2, 0), 8);
        Check.due("lend(0, 2, 100)", x.lend(0, 2, 100), -392);
        Check.due("lend(0, 2, -100)", x.lend(0, 2, -100), 8);
        Check.due("the book", Check.book(x, 0, 3), "-9 4 8");
        Check.due("lend of a post without roads", Settings.made(Settings.net(2, "").andThen(Settings.book(3, 4))).lend(0, 0, 9), 3);
        Check.told("an answer of -7 is no refusal", SOME, y -> y.lend(0, 0, 2) + y.lend(0, 0, -2), -2);
        Check.due("lend up to 100000", Settings.made(Settings.great(99999, 5)).lend(9, 1, 1), 4);
        Check.due("lend down to -100000", Settings.made(Settings.great(-99999, 5)).lend(9, 0, 1), -100000);
        for (int wrong : Settings.beside(1)) {
            Check.refusedByNought("lend(" + wrong + ", 0, 101)", SOME, y -> y.lend(wrong, 0, 101), DebtNet.BEYOND);
        }
        for (int wrong : Settings.beside(3)) {
            Check.refusedByNought("lend(0, " + wrong + ", 1)", SOME, y -> y.lend(0, wrong, 1), DebtNet.BEYOND);
        }
        for (int wrong : new int[] {101, -101, Integer.MIN_VALUE, Integer.MAX_VALUE}) {
            Check.refusedByNought("lend(0, 0, " + wrong + ")", SOME, y -> y.lend(0, 0, wrong), DebtNet.NO);
        }
        Check.refusedByNought("lend(9, 1, 101), too far", Settings.great(100000, 5), y -> y.lend(9, 1, 101), DebtNet.NO);
        Check.refusedByNought("lend to one above 100000", Settings.great(100000, 5), y -> y.lend(9, 1, 1), DebtNet.FULL);
        Check.refusedByNought("borrow to one above 100000", Settings.great(100000, 5), y -> y.lend(9, 0, -1), DebtNet.FULL);
        Check.refusedByNought("lend to one below -100000", Settings.great(-100000, 5), y -> y.lend(9, 0, 1), DebtNet.FULL);
        Check.refusedByNought("borrow to one below -100000", Settings.great(-100000, 5), y -> y.lend(9, 1, -1), DebtNet.FULL);
    }

    private static void promise16() {
        Check.part("promise 16");
        DebtNet x = Settings.made(Settings.net(4, "121003").andThen(Settings.book(1, 2, 3, 4)));
        Check.due("lendAll(0, 0)", x.lendAll(0, 0), 0);
        Check.due("lendAll(0, 15)", x.lendAll(0, 15), 0);
        Check.due("the book", Check.book(x, 0, 4), "1 2 3 4");
        Check.due("lendAll(0, 1)", x.lendAll(0, 1), 3);
        Check.due("the book", Check.book(x, 0, 4), "-2 3 5 4");
        Check.due("lendAll(0, 6)", x.lendAll(0, 6), 4);
        Check.due("the book", Check.book(x, 0, 4), "1 2 0 7");
        Check.due("lendAll(0, 8)", x.lendAll(0, 8), 2);
        Check.due("the book", Check.book(x, 0, 4), "1 2 3 4");
        x = Settings.made(Settings.great(100000, 5));
        Check.due("lendAll, the great one lends", x.lendAll(9, 1), 2);
        Check.due("lendAll up to 100000", x.lendAll(9, 2), 2);
        Check.due("lendAll, what comes goes at once", x.lendAll(9, 3), 0);
        for (int wrong : Settings.beside(1)) {
            Check.refused("lendAll(" + wrong + ", 1)", SOME, y -> y.lendAll(wrong, 1), DebtNet.BEYOND);
        }
        for (int wrong : Settings.beside(8)) {
            Check.refused("lendAll(0, " + wrong + ")", SOME, y -> y.lendAll(0, wrong), DebtNet.BEYOND);
        }
        Check.refused("lendAll to one above 100000", Settings.great(100000, 5), y -> y.lendAll(9, 2), DebtNet.FULL);
        Check.refused("lendAll to one below -100000", Settings.great(-100000, 5), y -> y.lendAll(9, 1), DebtNet.FULL);
    }

    private static void promise17() {
        Check.part("promise 17");
        DebtNet x = Settings.made(Settings.net(3, "240").andThen(Settings.path(1)).andThen(Settings.all(6, 4)).andThen(Settings.net(2, "")));
        Check.due("own(0)", x.own(0), 0);
        Check.due("the book", Check.book(x, 0, 3), "4 0 2");
        Check.due("own(1)", x.own(1), 1);
        Check.due("the book", Check.book(x, 1, 1), "-2");
        Check.due("own(2)", x.own(2), 2);
        Check.due("the book", Check.book(x, 2, 6), "18 18 18 18 18 18");
        Check.due("own(3)", x.own(3), 3);
        Check.due("the book", Check.book(x, 3, 2), "-2 -2");
        Check.due("count(1)", x.count(1), 4);
        for (int wrong : Settings.beside(1)) {
            Check.refused("own(" + wrong + ")", TEN, y -> y.own(wrong), DebtNet.BEYOND);
        }
        Check.refused("own(0), an eleventh", TEN, y -> y.own(0), DebtNet.FULL);
    }

    private static void promise18() {
        Check.part("promise 18");
        DebtNet x = Settings.made(SOME.andThen(Settings.book(-1, 3, 300)));
        Check.due("sum(0, 1, false)", x.sum(0, 1, false), 2);
        Check.due("the book", Check.book(x, 2, 3), "4 1 300");
        Check.due("sum(0, 1, true)", x.sum(0, 1, true), 3);
        Check.due("the book", Check.book(x, 3, 3), "6 -5 -300");
        Check.due("sum(1, 1, true)", x.sum(1, 1, true), 4);
        Check.due("the book", Check.book(x, 4, 3), "0 0 0");
        Check.due("sum(1, 1, false)", x.sum(1, 1, false), 5);
        Check.due("the book", Check.book(x, 5, 3), "-2 6 600");
        Check.due("the first book", Check.book(x, 0, 3), "5 -2 0");
        Check.due("the second book", Check.book(x, 1, 3), "-1 3 300");
        Consumer<DebtNet> two = SOME.andThen(Settings.net(3, "240")).andThen(Settings.book(1, 1, 1));
        Consumer<DebtNet> tenOfTwo = two.andThen(y -> {
            for (int book = 2; book < 10; book++) {
                y.book(0);
            }
        });
        for (boolean less : new boolean[] {false, true}) {
            for (int wrong : Settings.beside(2)) {
                Check.refused("sum(" + wrong + ", 1)", two, y -> y.sum(wrong, 1, less), DebtNet.BEYOND);
                Check.refused("sum(0, " + wrong + ")", two, y -> y.sum(0, wrong, less), DebtNet.BEYOND);
            }
            Check.refused("sum(0, 10) of ten", tenOfTwo, y -> y.sum(0, 10, less), DebtNet.BEYOND);
            Check.refused("sum of two nets", two, y -> y.sum(0, 1, less), DebtNet.NO);
            Check.refused("sum of two nets, an eleventh", tenOfTwo, y -> y.sum(0, 1, less), DebtNet.NO);
            Check.refused("sum, an eleventh", tenOfTwo, y -> y.sum(0, 2, less), DebtNet.FULL);
        }
        greatSums(50000, 50000, false, true);
        greatSums(50000, 50001, false, false);
        greatSums(-50000, -50000, false, true);
        greatSums(-50000, -50001, false, false);
        greatSums(50000, -50000, true, true);
        greatSums(50000, -50001, true, false);
        greatSums(-50000, 50000, true, true);
        greatSums(-50000, 50001, true, false);
    }

    private static void greatSums(int first, int second, boolean less, boolean fits) {
        Consumer<DebtNet> two = Settings.all(6, 4).andThen(Settings.heap(first)).andThen(Settings.heap(second));
        String name = "sum of " + first + (less ? " less " : " and ") + second;
        Check.due(name + ": the first", Settings.made(two).at(0, 0), first);
        Check.due(name + ": the second", Settings.made(two).at(1, 0), second);
        if (fits) {
            DebtNet x = Settings.made(two);
            Check.due(name, x.sum(0, 1, less), 2);
            Check.due(name + ": its number", x.at(2, 0), less ? first - second : first + second);
        } else {
            Check.refused(name, two, x -> x.sum(0, 1, less), DebtNet.FULL);
        }
    }

    private static void promise19() {
        Check.part("promise 19");
        DebtNet x = Settings.made(SOME.andThen(Settings.book(1)).andThen(Settings.book(2)));
        Check.due("drop()", x.drop(), 2);
        Check.due("count(1)", x.count(1), 2);
        Check.due("at(1, 0)", x.at(1, 0), 1);
        Check.due("at(2, 0)", x.at(2, 0), 0);
        Check.due("the book that went is beyond", x.status(DebtNet.BEYOND), 1);
        Check.due("drop()", x.drop(), 1);
        Check.due("drop()", x.drop(), 0);
        Check.due("drop() of none", x.drop(), DebtNet.MISSING);
        Check.refused("drop() of none", Settings.ring(3), DebtNet::drop, DebtNet.MISSING);
        Check.refused("drop() of nothing", Settings.NOTHING, DebtNet::drop, DebtNet.MISSING);
    }
}

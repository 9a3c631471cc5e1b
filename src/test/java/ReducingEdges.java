import java.util.function.Consumer;

/** Edges that the lines of promises 20 to 30 name: each test tells its sentence. */
final class ReducingEdges {
    private static final int MIN = Integer.MIN_VALUE;
    private static final int MAX = Integer.MAX_VALUE;
    private static final Consumer<DebtNet> BENCH = Settings.bench();
    private static final Consumer<DebtNet> POST = Settings.net(1, "");
    private static final Consumer<DebtNet> RING = Settings.ring(3);

    private ReducingEdges() {
    }

    // ---- promise 20

    @Says(promise = 20, value = "POSTS that burn in the FIRE from one, as bits.")
    static void fromTheOnePostToAllSix() {
        Check.told("the only post", POST.andThen(Settings.book(0)), x -> x.burn(0, 0), 1);
        Check.told("all six", Settings.all(6, 4).andThen(Settings.book()), x -> x.burn(0, 3), 63);
        Check.told("post 5 alone", Settings.path(6).andThen(Settings.book(0, 0, 0, 0, 1, 0)), x -> x.burn(0, 5), 32);
    }

    @Says(promise = 20, value = "POSTS that burn in the FIRE from one, as bits.")
    static void aNetThatIsNotWholeBurnsToo() {
        Check.told("a net without roads", Settings.net(6, "").andThen(Settings.book()), x -> x.burn(0, 5), 32);
        Check.told("the part of the fire", BENCH.andThen(x -> x.put(2, 5, 0)), x -> x.burn(2, 1), 7);
    }

    @Says(promise = 20, value = "BEYOND.")
    static void noFireBeyond() {
        for (int wrong : Settings.beside(4)) {
            Check.refused("burn(" + wrong + ", 0)", BENCH, x -> x.burn(wrong, 0), DebtNet.BEYOND);
        }
        for (int wrong : Settings.beside(3)) {
            Check.refused("burn(0, " + wrong + ")", BENCH, x -> x.burn(0, wrong), DebtNet.BEYOND);
        }
    }

    // ---- promise 21

    @Says(promise = 21, value = "A BOOK becomes the one that is REDUCED at a POST: how many numbers are others than before.")
    static void fromNoOtherNumberToAll() {
        DebtNet x = Settings.made(Settings.all(6, 4).andThen(Settings.book(0, 4, 4, 4, 4, 4)));
        Check.due("all six", x.reduce(0, 0), 6);
        Check.due("the book", Check.book(x, 0, 6), "20 0 0 0 0 0");
        Check.due("none", x.reduce(0, 0), 0);
        Check.told("the only post", POST.andThen(Settings.book(-300)), y -> y.reduce(0, 0), 0);
    }

    @Says(promise = 21, value = "BEYOND, KIND, FULL: a number at the end.")
    static void nothingReducedBeyond() {
        for (int wrong : Settings.beside(4)) {
            Check.refused("reduce(" + wrong + ", 0)", BENCH, x -> x.reduce(wrong, 0), DebtNet.BEYOND);
        }
        for (int wrong : Settings.beside(3)) {
            Check.refused("reduce(0, " + wrong + ")", BENCH, x -> x.reduce(0, wrong), DebtNet.BEYOND);
        }
    }

    @Says(promise = 21, value = "BEYOND, KIND, FULL: a number at the end.")
    static void nothingReducedOnANetThatIsNotWhole() {
        Check.refused("reduce(2, 0)", BENCH, x -> x.reduce(2, 0), DebtNet.KIND);
        Check.refused("noughts", Settings.net(2, "").andThen(Settings.book()), x -> x.reduce(0, 1), DebtNet.KIND);
    }

    @Says(promise = 21, value = "BEYOND, KIND, FULL: a number at the end.")
    static void a100000AtTheEndIsTakenAnd100001IsNot() {
        for (int each = 0; each < 2; each++) {
            int post = each;
            DebtNet x = Settings.made(Settings.great(99999, 1));
            x.reduce(9, post);
            Check.due("the book", Check.book(x, 9, 2), post == 0 ? "100000 0" : "0 100000");
            Check.refused("one more", Settings.great(99999, 2), y -> y.reduce(9, post), DebtNet.FULL);
        }
    }

    @Says(promise = 21, value = "BEYOND, KIND, FULL: a number at the end.")
    static void aMinus100000AtTheEndIsTakenAndMinus100001IsNot() {
        for (int each = 0; each < 2; each++) {
            int post = each;
            DebtNet x = Settings.made(Settings.great(-99999, -1));
            x.reduce(9, post);
            Check.due("the book", Check.book(x, 9, 2), post == 0 ? "-100000 0" : "0 -100000");
            Check.refused("one more", Settings.great(-99999, -2), y -> y.reduce(9, post), DebtNet.FULL);
        }
    }

    @Says(promise = 21, value = "BEYOND, KIND, FULL: a number at the end.")
    static void sixTimes100000AreFullAtTheEnd() {
        for (int each = 0; each < 6; each++) {
            int post = each;
            Check.refused("goods", Settings.brim(1), x -> x.reduce(2, post), DebtNet.FULL);
            Check.refused("debts", Settings.brim(-1), x -> x.reduce(2, post), DebtNet.FULL);
        }
    }

    @Says(promise = 21, value = "BEYOND, KIND, FULL: a number at the end.")
    static void beyondThenNotWholeThenFull() {
        for (int wrong : Settings.beside(6)) {
            Check.refused("a post beyond, not whole", BENCH, x -> x.reduce(2, wrong), DebtNet.BEYOND);
        }
        Check.refused("not whole, a number beyond", Settings.greatOn(Settings.net(3, "1"), 99999, 2), x -> x.reduce(9, 0), DebtNet.KIND);
        Check.refused("not whole, a debt beyond", Settings.greatOn(Settings.net(3, "1"), -100000, -1), x -> x.reduce(9, 0), DebtNet.KIND);
        Check.refused("a post beyond, a number beyond", Settings.great(99999, 2), x -> x.reduce(9, 2), DebtNet.BEYOND);
    }

    // ---- promise 22

    @Says(promise = 22, value = "Whether two BOOKS are LIKE: 1, 0.")
    static void likeIs1AndUnlikeIs0() {
        Consumer<DebtNet> two = RING.andThen(Settings.book(0, 0, 0)).andThen(Settings.book(2, -1, -1));
        Check.told("like", two, x -> x.like(0, 1), 1);
        Check.told("another degree", two.andThen(x -> x.put(1, 0, 3)), x -> x.like(0, 1), 0);
        Check.told("the same degree", two.andThen(x -> x.put(1, 1, 0)).andThen(x -> x.put(1, 0, 1)), x -> x.like(0, 1), 0);
    }

    @Says(promise = 22, value = "Whether two BOOKS are LIKE: 1, 0.")
    static void likeAtTheGreatestNumbers() {
        Check.told("goods", Settings.brim(1), x -> x.like(2, 2), 1);
        Check.told("debts", Settings.brim(-1), x -> x.like(2, 2), 1);
        Check.told("goods and noughts", Settings.brim(1).andThen(x -> x.sum(2, 2, true)), x -> x.like(2, 3), 0);
    }

    @Says(promise = 22, value = "BEYOND, NO: unlike NETS; KIND.")
    static void nothingIsLikeABookBeyond() {
        for (int wrong : Settings.beside(4)) {
            Check.refused("like(" + wrong + ", 0)", BENCH, x -> x.like(wrong, 0), DebtNet.BEYOND);
            Check.refused("like(0, " + wrong + ")", BENCH, x -> x.like(0, wrong), DebtNet.BEYOND);
            Check.refused("like of both", BENCH, x -> x.like(wrong, wrong), DebtNet.BEYOND);
        }
    }

    @Says(promise = 22, value = "BEYOND, NO: unlike NETS; KIND.")
    static void booksOfUnlikeNetsAreNotAsTold() {
        Check.refused("like(0, 3)", BENCH, x -> x.like(0, 3), DebtNet.NO);
        Check.refused("like(3, 0)", BENCH, x -> x.like(3, 0), DebtNet.NO);
    }

    @Says(promise = 22, value = "BEYOND, NO: unlike NETS; KIND.")
    static void aBookOfANetThatIsNotWholeIsNotLikeItself() {
        Check.refused("like(2, 2)", BENCH, x -> x.like(2, 2), DebtNet.KIND);
    }

    @Says(promise = 22, value = "BEYOND, NO: unlike NETS; KIND.")
    static void beyondThenUnlikeThenNotWhole() {
        Check.refused("beyond, not whole", BENCH, x -> x.like(2, 4), DebtNet.BEYOND);
        Check.refused("not whole, beyond", BENCH, x -> x.like(-1, 2), DebtNet.BEYOND);
        Check.refused("unlike, the first not whole", BENCH, x -> x.like(2, 0), DebtNet.NO);
        Check.refused("unlike, the second not whole", BENCH, x -> x.like(0, 2), DebtNet.NO);
    }

    // ---- promise 23

    @Says(promise = 23, value = "THE ROW becomes HOW OFTEN each POST lends from the first to the other BOOK: how many POSTS;")
    static void aRowOfAsManyAsPosts() {
        for (int n = 1; n <= 6; n++) {
            DebtNet x = Settings.made(BENCH.andThen(Settings.path(n)).andThen(Settings.book(1)));
            Check.due("how of " + n, x.how(4, 4), n);
            Check.due("the row", Check.row(x), "0 0 0 0 0 0".substring(0, 2 * n - 1));
        }
    }

    @Says(promise = 23, value = "THE ROW becomes HOW OFTEN each POST lends from the first to the other BOOK: how many POSTS;")
    static void fromTheFirstToTheOther() {
        Consumer<DebtNet> two = Settings.path(2).andThen(Settings.book(300, -300)).andThen(Settings.book(-300, 300));
        DebtNet x = Settings.made(two);
        Check.due("how(0, 1)", x.how(0, 1), 2);
        Check.due("the row", Check.row(x), "600 0");
        Check.due("how(1, 0)", x.how(1, 0), 2);
        Check.due("the row", Check.row(x), "0 600");
    }

    @Says(promise = 23, value = "NONE: they are not LIKE (THE ROW stays).")
    static void noneIsNoRefusalAndTheRowStays() {
        Check.told("how(0, 1)", BENCH.andThen(x -> x.put(0, 2, 1)), x -> x.how(0, 1), DebtNet.NONE);
        Check.told("the same degree", BENCH.andThen(x -> x.put(0, 0, 1)).andThen(x -> x.put(0, 1, 2)), x -> x.how(0, 1), DebtNet.NONE);
        Check.told("without a row", BENCH.andThen(DebtNet::tear).andThen(x -> x.put(0, 2, 1)), x -> x.how(0, 1), DebtNet.NONE);
    }

    @Says(promise = 23, value = "As like().")
    static void howOfBooksBeyond() {
        for (int wrong : Settings.beside(4)) {
            Check.refused("how(" + wrong + ", 0)", BENCH, x -> x.how(wrong, 0), DebtNet.BEYOND);
            Check.refused("how(0, " + wrong + ")", BENCH, x -> x.how(0, wrong), DebtNet.BEYOND);
            Check.refused("how of both", BENCH, x -> x.how(wrong, wrong), DebtNet.BEYOND);
        }
    }

    @Says(promise = 23, value = "As like().")
    static void howOfUnlikeNets() {
        Check.refused("how(0, 3)", BENCH, x -> x.how(0, 3), DebtNet.NO);
        Check.refused("how(3, 0)", BENCH, x -> x.how(3, 0), DebtNet.NO);
    }

    @Says(promise = 23, value = "As like().")
    static void howOnANetThatIsNotWhole() {
        Check.refused("how(2, 2)", BENCH, x -> x.how(2, 2), DebtNet.KIND);
    }

    @Says(promise = 23, value = "As like().")
    static void howTellsBeyondThenUnlikeThenNotWhole() {
        Check.refused("beyond, not whole", BENCH, x -> x.how(2, 4), DebtNet.BEYOND);
        Check.refused("not whole, beyond", BENCH, x -> x.how(-1, 2), DebtNet.BEYOND);
        Check.refused("unlike, the first not whole", BENCH, x -> x.how(2, 0), DebtNet.NO);
        Check.refused("unlike, the second not whole", BENCH, x -> x.how(0, 2), DebtNet.NO);
    }

    // ---- promise 24

    @Says(promise = 24, value = "Whether a BOOK is WON: 1, 0.")
    static void wonIs1And0ElseUpToTheGreatestNumbers() {
        Check.told("book 0", BENCH, x -> x.won(0), 1);
        Check.told("one debt", BENCH.andThen(x -> x.put(0, 0, 1)), x -> x.won(0), 0);
        Check.told("each number 100000", Settings.brim(1), x -> x.won(2), 1);
        Check.told("each number -100000", Settings.brim(-1), x -> x.won(2), 0);
    }

    @Says(promise = 24, value = "BEYOND, KIND.")
    static void nothingWonBeyond() {
        for (int wrong : Settings.beside(4)) {
            Check.refused("won(" + wrong + ")", BENCH, x -> x.won(wrong), DebtNet.BEYOND);
        }
    }

    @Says(promise = 24, value = "BEYOND, KIND.")
    static void nothingWonOnANetThatIsNotWholeEvenGoods() {
        Check.refused("won(2)", BENCH, x -> x.won(2), DebtNet.KIND);
        Check.refused("goods", BENCH.andThen(x -> x.put(2, 5, 6)), x -> x.won(2), DebtNet.KIND);
    }

    // ---- promise 25

    @Says(promise = 25, value = "RANK.")
    static void ranksUpToTheGreatestNumbers() {
        Check.told("100300 goods on a tree", Settings.great(100000, 300), x -> x.rank(9), 100300);
        Check.told("debts", Settings.great(-100000, 300), x -> x.rank(9), -1);
        Check.told("the only post, 0", POST.andThen(Settings.book(0)), x -> x.rank(0), 0);
        Check.told("the only post, 300", POST.andThen(Settings.book(300)), x -> x.rank(0), 300);
    }

    @Says(promise = 25, value = "BEYOND, KIND, NO: GENUS above 4.")
    static void noRankBeyond() {
        for (int wrong : Settings.beside(4)) {
            Check.refused("rank(" + wrong + ")", BENCH, x -> x.rank(wrong), DebtNet.BEYOND);
        }
    }

    @Says(promise = 25, value = "BEYOND, KIND, NO: GENUS above 4.")
    static void noRankOnANetThatIsNotWhole() {
        Check.refused("without a road", Settings.net(2, "").andThen(Settings.book(1, 1)), x -> x.rank(0), DebtNet.KIND);
    }

    @Says(promise = 25, value = "BEYOND, KIND, NO: GENUS above 4.")
    static void rankOfGenus4IsToldAndOfGenus5IsNot() {
        Check.told("genus 4", Settings.net(3, "411").andThen(Settings.book()), x -> x.rank(0), 0);
        Check.refused("genus 5", BENCH, x -> x.rank(3), DebtNet.NO);
        Check.refused("genus 5 in debt", BENCH.andThen(x -> x.put(3, 0, -9)), x -> x.rank(3), DebtNet.NO);
        Check.refused("genus 5, where the law would tell it", BENCH.andThen(x -> x.put(3, 0, 300)), x -> x.rank(3), DebtNet.NO);
    }

    @Says(promise = 25, value = "BEYOND, KIND, NO: GENUS above 4.")
    static void rankTellsNotWholeBeforeGenusAbove4() {
        Check.refused("genus 7, not whole", BENCH, x -> x.rank(2), DebtNet.KIND);
    }

    @Says(promise = 25, value = "(-1 is told as -1.)")
    static void minus1IsNoRefusal() {
        Check.told("not won", BENCH.andThen(x -> x.put(0, 0, 1)), x -> x.rank(0), -1);
        Check.told("debts alone", BENCH.andThen(x -> x.put(0, 0, -300)), x -> x.rank(0), -1);
    }

    // ---- promise 26

    private static void breaks(String name, Consumer<DebtNet> setting, int goods, String due) {
        DebtNet x = Settings.made(setting);
        int book = x.count(1) - 1;
        Check.due(name + ": why", x.why(book), goods);
        Check.due(name + ": the row", Check.row(x), due);
    }

    @Says(promise = 26, value = "THE ROW becomes the goods that BREAK a BOOK, POST by POST: how many in all.")
    static void noGoodsBreakWhatIsNotWon() {
        breaks("not won", BENCH.andThen(Settings.bookOf(0, 1, -1, 0)), 0, "0 0 0");
        breaks("the only post", BENCH.andThen(POST).andThen(Settings.book(-1)), 0, "0");
        breaks("six posts", BENCH.andThen(Settings.path(6)).andThen(Settings.book(-1)), 0, "0 0 0 0 0 0");
    }

    @Says(promise = 26, value = "THE ROW becomes the goods that BREAK a BOOK, POST by POST: how many in all.")
    static void oneGoodBreaksRank0() {
        breaks("noughts of a ring", RING.andThen(Settings.book()), 1, "1 0 0");
        breaks("the only post", POST.andThen(Settings.book(0)), 1, "1");
        breaks("the last post alone", Settings.path(6).andThen(x -> x.road(0, 4, 5, 2)).andThen(Settings.book(1)), 1, "0 0 0 0 0 1");
    }

    @Says(promise = 26, value = "As rank();")
    static void whyOfABookBeyond() {
        for (int wrong : Settings.beside(4)) {
            Check.refused("why(" + wrong + ")", BENCH, x -> x.why(wrong), DebtNet.BEYOND);
        }
    }

    @Says(promise = 26, value = "As rank();")
    static void whyOnANetThatIsNotWhole() {
        Check.refused("without a road", Settings.net(2, "").andThen(Settings.book(1, 1)), x -> x.why(0), DebtNet.KIND);
        Check.refused("genus 7, not whole", BENCH, x -> x.why(2), DebtNet.KIND);
    }

    @Says(promise = 26, value = "As rank();")
    static void whyOfGenus4IsToldAndOfGenus5IsNot() {
        breaks("genus 4", Settings.net(3, "411").andThen(Settings.book()), 1, "1 0 0");
        Check.refused("genus 5", BENCH, x -> x.why(3), DebtNet.NO);
        Check.refused("genus 5 in debt", BENCH.andThen(x -> x.put(3, 0, -9)), x -> x.why(3), DebtNet.NO);
    }

    @Says(promise = 26, value = "FULL: RANK is above 20 (THE ROW stays).")
    static void rank20IsBrokenBy21AndRank21IsFull() {
        String[] due = {"21 0", "20 1", "20 1", "20 1"};
        for (int genus = 0; genus < 4; genus++) {
            Consumer<DebtNet> net = Settings.net(2, String.valueOf(genus + 1));
            breaks("rank 20 of genus " + genus, net.andThen(Settings.book(20 + genus)), 21, due[genus]);
            Check.refused("rank 21 of genus " + genus, net.andThen(Settings.book(21 + genus)).andThen(x -> x.lay(0, 0)),
                    x -> x.why(0), DebtNet.FULL);
        }
        Consumer<DebtNet> genus4 = Settings.net(3, "411").andThen(x -> x.lay(0, 0));
        Check.due("rank 20 of genus 4", Settings.made(genus4.andThen(Settings.book(24))).why(0), 21);
        Check.refused("rank 21 of genus 4", genus4.andThen(Settings.book(25)), x -> x.why(0), DebtNet.FULL);
        breaks("the only post, rank 20", POST.andThen(Settings.book(20)), 21, "21");
        Check.refused("the only post, rank 21", POST.andThen(Settings.book(21)).andThen(x -> x.lay(0, 0)), x -> x.why(0), DebtNet.FULL);
    }

    @Says(promise = 26, value = "FULL: RANK is above 20 (THE ROW stays).")
    static void aMissingRowStaysMissing() {
        Check.refused("rank 300", POST.andThen(Settings.book(300)), x -> x.why(0), DebtNet.FULL);
        Check.refused("the greatest numbers", Settings.great(100000, 300), x -> x.why(9), DebtNet.FULL);
    }

    @Says(promise = 26, value = "As rank(); FULL: RANK is above 20 (THE ROW stays).")
    static void notWholeAndGenusAreToldBeforeFull() {
        Check.refused("not whole, many goods", Settings.net(2, "").andThen(Settings.book(300, 300)), x -> x.why(0), DebtNet.KIND);
        Check.refused("genus 5, many goods", BENCH.andThen(x -> x.put(3, 0, 300)), x -> x.why(3), DebtNet.NO);
    }

    // ---- promise 27

    @Says(promise = 27, value = "ORDER of a BOOK.")
    static void from1ToTheLastFactor() {
        Check.told("noughts", RING.andThen(Settings.book()), x -> x.order(0), 1);
        Check.told("net 0", BENCH.andThen(Settings.bookOf(0, 1, -1, 0)), x -> x.order(4), 5);
        Check.told("the fullest net", Settings.all(6, 4).andThen(Settings.book(0, 0, 0, 0, 1, -1)), x -> x.order(0), 24);
        Check.told("300 times as much", Settings.all(6, 4).andThen(Settings.book(0, 0, 0, 0, 300, -300)), x -> x.order(0), 2);
    }

    @Says(promise = 27, value = "BEYOND, KIND, NO: DEGREE isn't 0: 0, and status() tells of it.")
    static void noOrderBeyond() {
        for (int wrong : Settings.beside(4)) {
            Check.refusedByNought("order(" + wrong + ")", BENCH, x -> x.order(wrong), DebtNet.BEYOND);
        }
    }

    @Says(promise = 27, value = "BEYOND, KIND, NO: DEGREE isn't 0: 0, and status() tells of it.")
    static void noOrderOnANetThatIsNotWhole() {
        Check.refusedByNought("degree 0", Settings.net(2, "").andThen(Settings.book()), x -> x.order(0), DebtNet.KIND);
    }

    @Says(promise = 27, value = "BEYOND, KIND, NO: DEGREE isn't 0: 0, and status() tells of it.")
    static void degrees1AndMinus1HaveNoOrder() {
        Check.refusedByNought("degree 1", RING.andThen(Settings.book(1)), x -> x.order(0), DebtNet.NO);
        Check.refusedByNought("degree -1", RING.andThen(Settings.book(0, -1)), x -> x.order(0), DebtNet.NO);
        Check.refusedByNought("degree 600000", Settings.brim(1), x -> x.order(2), DebtNet.NO);
        Check.refusedByNought("degree -600000", Settings.brim(-1), x -> x.order(2), DebtNet.NO);
        Check.refusedByNought("the only post", POST.andThen(Settings.book(1)), x -> x.order(0), DebtNet.NO);
    }

    @Says(promise = 27, value = "BEYOND, KIND, NO: DEGREE isn't 0: 0, and status() tells of it.")
    static void orderTellsNotWholeBeforeTheDegree() {
        Check.refusedByNought("degree 9, not whole", BENCH, x -> x.order(2), DebtNet.KIND);
    }

    // ---- promise 28

    /** Book 9 on the posts 0 - 1 - 2: 100000 goods at post 0, these at the others. */
    private static Consumer<DebtNet> leaves(Consumer<DebtNet> net, int middle, int last) {
        return Settings.greatOn(net, 100000, middle).andThen(x -> x.put(9, 2, last));
    }

    @Says(promise = 28, value = "A BOOK falls at a POST till it is STILL: how many LENDS.")
    static void aStillBookTells0Lends() {
        Check.told("noughts", RING.andThen(Settings.book()), x -> x.fall(0, 0), 0);
        Check.told("one good less than roads", RING.andThen(Settings.book(300, 1, 1)), x -> x.fall(0, 0), 0);
    }

    @Says(promise = 28, value = "BEYOND, KIND, NO: some other POST's number is below 0;")
    static void nothingFallsBeyond() {
        for (int wrong : Settings.beside(4)) {
            Check.refused("fall(" + wrong + ", 0)", BENCH, x -> x.fall(wrong, 0), DebtNet.BEYOND);
        }
        for (int wrong : Settings.beside(3)) {
            Check.refused("fall(1, " + wrong + ")", BENCH, x -> x.fall(1, wrong), DebtNet.BEYOND);
        }
    }

    @Says(promise = 28, value = "BEYOND, KIND, NO: some other POST's number is below 0;")
    static void nothingFallsOnANetThatIsNotWhole() {
        Check.refused("noughts", Settings.net(2, "").andThen(Settings.book()), x -> x.fall(0, 0), DebtNet.KIND);
    }

    @Says(promise = 28, value = "BEYOND, KIND, NO: some other POST's number is below 0;")
    static void aDebtOf1AtAnotherPostIsNotAsToldAndAtPItIsTaken() {
        for (int each = 0; each < 3; each++) {
            int debtor = each;
            Consumer<DebtNet> debt = RING.andThen(Settings.book(0, 0, 0)).andThen(x -> x.put(0, debtor, -1));
            for (int p = 0; p < 3; p++) {
                int post = p;
                if (post == debtor) {
                    Check.told("a debt at p", debt, x -> x.fall(0, post), 0);
                } else {
                    Check.refused("a debt at " + debtor, debt, x -> x.fall(0, post), DebtNet.NO);
                }
            }
        }
    }

    @Says(promise = 28, value = "SPENT: more than 100000;")
    static void a100000LendsAreTakenAnd100001AreNot() {
        DebtNet x = Settings.made(leaves(Settings.path(3), -300, 0));
        Check.due("100000 lends", x.fall(9, 1), 100000);
        Check.due("the book", Check.book(x, 9, 3), "0 99700 0");
        Check.refused("100001 lends", leaves(Settings.path(3), -300, 1), y -> y.fall(9, 1), DebtNet.SPENT);
    }

    @Says(promise = 28, value = "SPENT: more than 100000;")
    static void theMostLendsOfAllAreSpent() {
        Check.refused("100000 goods at the end of a path of six",
                Settings.greatOn(Settings.path(6), 100000, 300), x -> x.fall(9, 5), DebtNet.SPENT);
    }

    @Says(promise = 28, value = "FULL: a number at the end.")
    static void a100000AtTheEndOfAFallIsTakenAnd100001IsNot() {
        DebtNet x = Settings.made(Settings.great(99998, 2));
        Check.due("2 lends", x.fall(9, 0), 2);
        Check.due("the book", Check.book(x, 9, 2), "100000 0");
        Check.refused("3 lends", Settings.great(99998, 3), y -> y.fall(9, 0), DebtNet.FULL);
        x = Settings.made(Settings.great(100000, 0));
        Check.due("100000 lends", x.fall(9, 1), 100000);
        Check.due("the book", Check.book(x, 9, 2), "0 100000");
        Check.refused("100000 lends to 100001", Settings.great(100000, 1), y -> y.fall(9, 1), DebtNet.FULL);
    }

    @Says(promise = 28, value = "FULL: a number at the end.")
    static void aFallMayEndAtMinus100000() {
        Check.told("still", Settings.great(-100000, 0), x -> x.fall(9, 0), 0);
        DebtNet x = Settings.made(Settings.great(-100000, 1));
        Check.due("one lend", x.fall(9, 0), 1);
        Check.due("the book", Check.book(x, 9, 2), "-99999 0");
    }

    @Says(promise = 28, value = "BEYOND, KIND, NO: some other POST's number is below 0; SPENT: more than 100000; FULL: a number at the end.")
    static void fallTellsBeyondBeforeAllElse() {
        for (int wrong : Settings.beside(6)) {
            Check.refused("a post, not whole", BENCH, x -> x.fall(2, wrong), DebtNet.BEYOND);
        }
        Check.refused("a post, debts", BENCH, x -> x.fall(0, 3), DebtNet.BEYOND);
        Check.refused("a post, too many lends", leaves(Settings.path(3), 0, 1), x -> x.fall(9, 3), DebtNet.BEYOND);
    }

    @Says(promise = 28, value = "BEYOND, KIND, NO: some other POST's number is below 0; SPENT: more than 100000; FULL: a number at the end.")
    static void fallTellsNotWholeBeforeDebtsAndLends() {
        Check.refused("debts", BENCH, x -> x.fall(2, 0), DebtNet.KIND);
        Check.refused("too many lends", leaves(Settings.net(4, "101"), 0, 1), x -> x.fall(9, 1), DebtNet.KIND);
        Check.refused("a number beyond", Settings.greatOn(Settings.net(3, "1"), 99999, 2), x -> x.fall(9, 0), DebtNet.KIND);
    }

    @Says(promise = 28, value = "BEYOND, KIND, NO: some other POST's number is below 0; SPENT: more than 100000; FULL: a number at the end.")
    static void fallTellsDebtsBeforeTooManyLendsAndANumberBeyond() {
        Check.refused("too many lends", Settings.greatOn(Settings.path(6), 100000, 0).andThen(x -> x.put(9, 4, -1)),
                x -> x.fall(9, 5), DebtNet.NO);
        Check.refused("a number beyond", leaves(Settings.path(3), 2, -1), x -> x.fall(9, 1), DebtNet.NO);
    }

    @Says(promise = 28, value = "BEYOND, KIND, NO: some other POST's number is below 0; SPENT: more than 100000; FULL: a number at the end.")
    static void fallTellsTooManyLendsBeforeANumberBeyond() {
        Check.refused("100001 lends to 100001", leaves(Settings.path(3), 0, 1), x -> x.fall(9, 1), DebtNet.SPENT);
        Check.refused("100000 lends to 100001", leaves(Settings.path(3), 1, 0), x -> x.fall(9, 1), DebtNet.FULL);
    }

    // ---- promise 29

    @Says(promise = 29, value = "Whether two BOOKS have the same numbers: 1, 0.")
    static void oneOtherNumberAtAnyPostDecides() {
        Consumer<DebtNet> two = Settings.path(6).andThen(Settings.book(1, 2, 3, 4, 5, 6)).andThen(Settings.book(1, 2, 3, 4, 5, 6));
        Check.told("the same", two, x -> x.same(0, 1), 1);
        for (int each = 0; each < 6; each++) {
            int post = each;
            Check.told("another at " + post, two.andThen(x -> x.put(1, post, 9)), x -> x.same(0, 1), 0);
        }
        Check.told("one with itself, not whole", BENCH, x -> x.same(2, 2), 1);
    }

    @Says(promise = 29, value = "BEYOND, NO: unlike NETS.")
    static void nothingTheSameBeyond() {
        for (int wrong : Settings.beside(4)) {
            Check.refused("same(" + wrong + ", 0)", BENCH, x -> x.same(wrong, 0), DebtNet.BEYOND);
            Check.refused("same(0, " + wrong + ")", BENCH, x -> x.same(0, wrong), DebtNet.BEYOND);
            Check.refused("same of both", BENCH, x -> x.same(wrong, wrong), DebtNet.BEYOND);
        }
    }

    @Says(promise = 29, value = "BEYOND, NO: unlike NETS.")
    static void sameNumbersOfUnlikeNetsAreNotAsTold() {
        Check.refused("same numbers", BENCH.andThen(x -> x.own(0)).andThen(x -> x.sum(4, 4, true)).andThen(Settings.bookOf(2)),
                x -> x.same(5, 6), DebtNet.NO);
        Check.refused("other numbers", BENCH, x -> x.same(2, 0), DebtNet.NO);
    }

    // ---- promise 30

    @Says(promise = 30, value = "NETS (what = 0), BOOKS (1).")
    static void fromNoneToFourAndTen() {
        Check.told("no nets", Settings.NOTHING, x -> x.count(0), 0);
        Check.told("no books", Settings.NOTHING, x -> x.count(1), 0);
        Check.told("four nets", Settings.fullBench(), x -> x.count(0), 4);
        Check.told("ten books", Settings.fullBench(), x -> x.count(1), 10);
    }

    @Says(promise = 30, value = "NO.")
    static void whatBeside0And1IsNotAsTold() {
        for (int wrong : new int[] {-1, 2, MIN, MAX}) {
            Check.refused("count(" + wrong + ")", BENCH, x -> x.count(wrong), DebtNet.NO);
            Check.refused("count(" + wrong + ") of nothing", Settings.NOTHING, x -> x.count(wrong), DebtNet.NO);
        }
    }
}

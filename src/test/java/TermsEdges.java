import java.util.function.Consumer;

/** Edges that the terms name: each test tells its sentence. */
final class TermsEdges {
    private static final Consumer<DebtNet> POST = Settings.net(1, "");
    private static final Consumer<DebtNet> RING = Settings.ring(3);
    private static final Consumer<DebtNet> PATH = Settings.path(3);
    private static final Consumer<DebtNet> FULLEST = Settings.all(6, 4);

    private TermsEdges() {
    }

    // ---- row 1: nets

    @Says("NETS 0 .. 3 as they come")
    static void netsAreNumberedFrom0To3AsTheyCome() {
        DebtNet x = new DebtNet();
        for (int net = 0; net < 4; net++) {
            Check.due("net(" + (net + 2) + ")", x.net(net + 2), net);
        }
        for (int net = 0; net < 4; net++) {
            Check.due("posts of net " + net, x.look(net, 1), net + 2);
        }
    }

    @Says("NETS 0 .. 3 as they come")
    static void aFifthNetDoesNotCome() {
        Check.refused("net(2)", Settings.fullBench(), x -> x.net(2), DebtNet.FULL);
    }

    @Says("NETS 0 .. 3 as they come")
    static void net4AndNetBelow0AreBeyond() {
        for (int wrong : Settings.beside(4)) {
            Check.refused("look(" + wrong + ", 1)", Settings.fullBench(), x -> x.look(wrong, 1), DebtNet.BEYOND);
        }
    }

    @Says("NETS 0 .. 3 as they come")
    static void aNetThatHasNotComeIsBeyond() {
        Check.refused("look(3, 1) of three", Settings.bench(), x -> x.look(3, 1), DebtNet.BEYOND);
    }

    @Says("have n POSTS (1 .. 6)")
    static void onePostIsTheLeast() {
        Check.due("net(1)", new DebtNet().net(1), 0);
        Check.refused("net(0)", Settings.bench(), x -> x.net(0), DebtNet.NO);
    }

    @Says("have n POSTS (1 .. 6)")
    static void sixPostsAreTheMost() {
        Check.due("net(6)", new DebtNet().net(6), 0);
        Check.refused("net(7)", Settings.bench(), x -> x.net(7), DebtNet.NO);
    }

    @Says("have n POSTS (1 .. 6)")
    static void postsOfANetAre0ToNLess1() {
        for (int n = 1; n <= 6; n++) {
            int last = n - 1;
            Consumer<DebtNet> net = Settings.net(n, "");
            Check.told("roads(0, 0, NONE) of " + n, net, x -> x.roads(0, 0, DebtNet.NONE), 0);
            Check.told("roads(0, " + last + ", NONE) of " + n, net, x -> x.roads(0, last, DebtNet.NONE), 0);
            Check.refused("roads of post " + n, net, x -> x.roads(0, last + 1, DebtNet.NONE), DebtNet.BEYOND);
            Check.refused("roads of post -1", net, x -> x.roads(0, -1, DebtNet.NONE), DebtNet.BEYOND);
        }
    }

    @Says("and ROADS: of two POSTS 0 .. 4 of them (0 at first).")
    static void roadsAre0AtFirst() {
        DebtNet x = Settings.made(Settings.net(6, ""));
        for (int a = 0; a < 6; a++) {
            for (int b = 0; b < 6; b++) {
                Check.due("roads(0, " + a + ", " + b + ")", x.roads(0, a, b), 0);
            }
        }
    }

    @Says("and ROADS: of two POSTS 0 .. 4 of them (0 at first).")
    static void noRoadIsTheLeast() {
        DebtNet x = Settings.made(RING);
        Check.due("road(0, 1, 2, 0)", x.road(0, 1, 2, 0), 1);
        Check.due("roads(0, 1, 2)", x.roads(0, 1, 2), 0);
        Check.refused("road(0, 1, 2, -1)", RING, y -> y.road(0, 1, 2, -1), DebtNet.NO);
    }

    @Says("and ROADS: of two POSTS 0 .. 4 of them (0 at first).")
    static void fourRoadsAreTheMost() {
        DebtNet x = Settings.made(RING);
        Check.due("road(0, 1, 2, 4)", x.road(0, 1, 2, 4), 1);
        Check.due("roads(0, 1, 2)", x.roads(0, 1, 2), 4);
        Check.refused("road(0, 1, 2, 5)", RING, y -> y.road(0, 1, 2, 5), DebtNet.NO);
    }

    @Says("ROADS OF a POST: all that lead from it.")
    static void roadsOfAPostAre0To20() {
        Check.told("of the only post", POST, x -> x.roads(0, 0, DebtNet.NONE), 0);
        Check.told("of a post without roads", Settings.net(3, "4"), x -> x.roads(0, 2, DebtNet.NONE), 0);
        for (int each = 0; each < 6; each++) {
            int post = each;
            Check.told("of post " + post + " of the fullest net", FULLEST, x -> x.roads(0, post, DebtNet.NONE), 20);
        }
    }

    private static void whole(String name, Consumer<DebtNet> net, int due) {
        Check.told(name + ": look(0, 4)", net, x -> x.look(0, 4), due);
    }

    @Says("A NET is WHOLE, if one can go from each POST to each over ROADS.")
    static void aNetOfOnePostIsWhole() {
        whole("one post", POST, 1);
    }

    @Says("A NET is WHOLE, if one can go from each POST to each over ROADS.")
    static void aNetWithoutRoadsIsNotWhole() {
        for (int n = 2; n <= 6; n++) {
            whole(n + " posts", Settings.net(n, ""), 0);
        }
    }

    @Says("A NET is WHOLE, if one can go from each POST to each over ROADS.")
    static void oneRoadDecides() {
        for (int each = 1; each < 6; each++) {
            int post = each;
            whole("a path with the road before " + post, Settings.path(6), 1);
            whole("a path without it", Settings.path(6).andThen(x -> x.road(0, post - 1, post, 0)), 0);
        }
    }

    @Says("A NET is WHOLE, if one can go from each POST to each over ROADS.")
    static void theWayMayGoToAndFroAmongTheNumbers() {
        whole("0-5-1-4-2-3", Settings.net(6, "0" + "00" + "001" + "0110" + "11000"), 1);
        whole("0-5, 1-4-2-3", Settings.net(6, "0" + "00" + "001" + "0110" + "10000"), 0);
    }

    @Says("A NET is WHOLE, if one can go from each POST to each over ROADS.")
    static void manyRoadsInTwoPartsAreNotWhole() {
        whole("two parts", Settings.net(6, "444" + "000" + "0004" + "00044"), 0);
        whole("all but post 0", Settings.net(6, "0" + "04" + "044" + "0444" + "04444"), 0);
        whole("all but post 5", Settings.net(6, "4" + "44" + "444" + "4444"), 0);
    }

    @Says("GENUS: ROADS in all less n and 1 more.")
    static void genusIsFromMinus5To55() {
        Check.told("six posts, no road", Settings.net(6, ""), x -> x.look(0, 3), -5);
        Check.told("the fullest net", FULLEST, x -> x.look(0, 3), 55);
        Check.told("one post", POST, x -> x.look(0, 3), 0);
    }

    private static void kind(String name, Consumer<DebtNet> net, int due) {
        Check.told(name + ": look(0, 0)", net, x -> x.look(0, 0), due);
    }

    @Says("KINDS, the first that fits: 0 TREE: WHOLE, GENUS 0;")
    static void aTreeIsWholeAndOfGenus0() {
        kind("one post", POST, 0);
        kind("one road", Settings.path(2), 0);
        kind("a path of six", Settings.path(6), 0);
        kind("genus 0, not whole", Settings.net(4, "111"), 3);
        kind("genus 0, not whole, post 0 apart", Settings.net(4, "001" + "011"), 3);
    }

    @Says("KINDS, the first that fits: 0 TREE: WHOLE, GENUS 0;")
    static void twoPostsWithOneRoadAreATreeAndNoBanana() {
        kind("one road", Settings.net(2, "1"), 0);
    }

    @Says("1 RING: WHOLE, each POST has 2 ROADS OF it;")
    static void aRingIsWholeAndHasTwoRoadsOfEachPost() {
        for (int n = 3; n <= 6; n++) {
            kind("a ring of " + n, Settings.ring(n), 1);
        }
        kind("two rings apart", Settings.net(6, "111" + "000" + "0001" + "00011"), 3);
        kind("two double roads apart", Settings.net(4, "200" + "002"), 3);
        kind("genus 1, a post with one road", Settings.net(4, "1111"), 3);
        kind("a ring with a road more", Settings.net(3, "112"), 3);
    }

    @Says("1 RING: WHOLE, each POST has 2 ROADS OF it;")
    static void twoPostsWithTwoRoadsAreARingAndNoBanana() {
        kind("two roads", Settings.net(2, "2"), 1);
    }

    @Says("2 BANANA: two POSTS, WHOLE;")
    static void aBananaHasTwoPostsAndThreeOrFourRoads() {
        kind("three roads", Settings.net(2, "3"), 2);
        kind("four roads", Settings.net(2, "4"), 2);
        kind("three posts", Settings.net(3, "304"), 3);
    }

    @Says("3 NET: any.")
    static void twoPostsWithoutARoadAreANet() {
        kind("no road", Settings.net(2, ""), 3);
    }

    // ---- row 1: books

    @Says("BOOKS 0 .. 9 as they come, each of a NET,")
    static void booksAreNumberedFrom0To9AsTheyCome() {
        DebtNet x = Settings.made(RING.andThen(PATH));
        for (int book = 0; book < 10; book++) {
            Check.due("book(" + book % 2 + ")", x.book(book % 2), book);
        }
        for (int book = 0; book < 10; book++) {
            Check.due("good(" + book + ")", x.good(book), 1);
        }
    }

    @Says("BOOKS 0 .. 9 as they come, each of a NET,")
    static void anEleventhBookDoesNotCome() {
        Check.refused("book(0)", Settings.fullBench(), x -> x.book(0), DebtNet.FULL);
        Check.refused("own(0)", Settings.fullBench(), x -> x.own(0), DebtNet.FULL);
        Check.refused("sum(0, 1, false)", Settings.fullBench(), x -> x.sum(0, 1, false), DebtNet.FULL);
    }

    @Says("BOOKS 0 .. 9 as they come, each of a NET,")
    static void book10AndBookBelow0AreBeyond() {
        for (int wrong : Settings.beside(10)) {
            Check.refused("good(" + wrong + ")", Settings.fullBench(), x -> x.good(wrong), DebtNet.BEYOND);
        }
    }

    @Says("BOOKS 0 .. 9 as they come, each of a NET,")
    static void aBookThatHasNotComeIsBeyond() {
        Check.refused("good(4) of four", Settings.bench(), x -> x.good(4), DebtNet.BEYOND);
    }

    @Says("BOOKS 0 .. 9 as they come, each of a NET,")
    static void aBookHasAsManyNumbersAsItsNetHasPosts() {
        Check.told("the last number of a net of 6", Settings.bench(), x -> x.at(2, 5), -6);
        Check.refusedByNought("one more in a net of 3", Settings.bench(), x -> x.at(3, 3), DebtNet.BEYOND);
    }

    @Says("have a number for each POST (-10^5 .. 10^5; below 0: debts; 0 at first).")
    static void theNumbersAre0AtFirst() {
        DebtNet x = Settings.made(FULLEST.andThen(Settings.book()));
        Check.due("a new book", Check.book(x, 0, 6), "0 0 0 0 0 0");
    }

    @Says("have a number for each POST (-10^5 .. 10^5; below 0: debts; 0 at first).")
    static void a100000IsTheGreatest() {
        Check.due("lend(9, 1, 1)", Settings.made(Settings.great(99999, 1)).lend(9, 1, 1), 0);
        Check.due("then", Check.book(made(Settings.great(99999, 1), x -> x.lend(9, 1, 1)), 9, 2), "100000 0");
        Check.refusedByNought("one more", Settings.great(100000, 1), x -> x.lend(9, 1, 1), DebtNet.FULL);
    }

    @Says("have a number for each POST (-10^5 .. 10^5; below 0: debts; 0 at first).")
    static void a100000OfDebtsIsTheLeast() {
        Check.due("lend(9, 0, 1)", Settings.made(Settings.great(-99999, 1)).lend(9, 0, 1), -100000);
        Check.due("then", Check.book(made(Settings.great(-99999, 1), x -> x.lend(9, 0, 1)), 9, 2), "-100000 2");
        Check.refusedByNought("one more", Settings.great(-100000, 1), x -> x.lend(9, 0, 1), DebtNet.FULL);
    }

    private static DebtNet made(Consumer<DebtNet> setting, Consumer<DebtNet> then) {
        return Settings.made(setting.andThen(then));
    }

    @Says("DEGREE: their sum.")
    static void degreeIsFromMinus600000To600000() {
        Check.told("each number 100000", Settings.brim(1), x -> x.degree(2), 600000);
        Check.told("each number -100000", Settings.brim(-1), x -> x.degree(2), -600000);
        Check.told("noughts", FULLEST.andThen(Settings.book()), x -> x.degree(0), 0);
    }

    @Says("It is GOOD, if none is below 0.")
    static void noughtsAreGoodAndOneBelow0IsNot() {
        Check.told("noughts", FULLEST.andThen(Settings.book()), x -> x.good(0), 1);
        for (int each = 0; each < 6; each++) {
            int post = each;
            Check.told("-1 at post " + post, FULLEST.andThen(Settings.book(9, 9, 9, 9, 9, 9)).andThen(x -> x.put(0, post, -1)),
                    x -> x.good(0), 0);
        }
    }

    @Says("TO LEND at a POST: its number is less by its ROADS, each other one more by its ROADS with that;")
    static void aPostWithoutRoadsLendsNothing() {
        DebtNet x = Settings.made(Settings.net(3, "4").andThen(Settings.book(1, 2, 3)));
        Check.due("lend(0, 2, 100)", x.lend(0, 2, 100), 3);
        Check.due("the book", Check.book(x, 0, 3), "1 2 3");
    }

    @Says("TO LEND at a POST: its number is less by its ROADS, each other one more by its ROADS with that;")
    static void twentyRoadsLendAtOnce() {
        DebtNet x = Settings.made(FULLEST.andThen(Settings.book()));
        Check.due("lend(0, 3, 1)", x.lend(0, 3, 1), -20);
        Check.due("the book", Check.book(x, 0, 6), "4 4 4 -20 4 4");
    }

    @Says("to borrow: the other way round.")
    static void twentyRoadsBringAtOnce() {
        DebtNet x = Settings.made(FULLEST.andThen(Settings.book()));
        Check.due("lend(0, 3, -1)", x.lend(0, 3, -1), 20);
        Check.due("the book", Check.book(x, 0, 6), "-4 -4 -4 20 -4 -4");
    }

    @Says("TO LEND at a set of POSTS: at each of them once.")
    static void theEmptySetLendsNothing() {
        Check.told("lendAll(0, 0)", Settings.bench(), x -> x.lendAll(0, 0), 0);
    }

    @Says("TO LEND at a set of POSTS: at each of them once.")
    static void whatAllPostsLendComesBack() {
        Check.told("lendAll(0, 7)", Settings.bench(), x -> x.lendAll(0, 7), 0);
    }

    @Says("TO LEND at a set of POSTS: at each of them once.")
    static void aSetOfOnePostLendsAsThatPost() {
        for (int post = 0; post < 3; post++) {
            DebtNet x = Settings.made(Settings.bench());
            DebtNet y = Settings.made(Settings.bench());
            x.lendAll(0, 1 << post);
            y.lend(0, post, 1);
            Check.due("post " + post, Check.book(x, 0, 3), Check.book(y, 0, 3));
        }
    }

    @Says("(A number that would be beyond 10^5: FULL.)")
    static void oneNumberBeyondRefusesTheLendOfAll() {
        Check.refused("a post has 100000", Settings.great(100000, 300), x -> x.lendAll(9, 2), DebtNet.FULL);
        Check.refused("a post has -100000", Settings.great(-100000, 300), x -> x.lendAll(9, 1), DebtNet.FULL);
    }

    @Says("(A number that would be beyond 10^5: FULL.)")
    static void numbersAtTheBrimStayThereIfAllLend() {
        Check.told("each number 100000", Settings.brim(1), x -> x.lendAll(2, 63), 0);
        Check.told("each number -100000", Settings.brim(-1), x -> x.lendAll(2, 63), 0);
        Check.told("five of them", Settings.brim(1), x -> x.lendAll(2, 0), 0);
    }

    @Says("(A number that would be beyond 10^5: FULL.)")
    static void atTheBrimEachPostRefuses() {
        for (int each = 0; each < 6; each++) {
            int post = each;
            for (int sign : new int[] {1, -1}) {
                Check.refusedByNought("lend at " + post, Settings.brim(sign), x -> x.lend(2, post, 1), DebtNet.FULL);
                Check.refusedByNought("borrow at " + post, Settings.brim(sign), x -> x.lend(2, post, -1), DebtNet.FULL);
            }
        }
    }

    @Says("LIKE are two BOOKS of one NET, if LENDS and borrows lead from the one to the other.")
    static void aBookIsLikeItselfWithoutAnyLend() {
        Check.told("like(0, 0)", Settings.bench(), x -> x.like(0, 0), 1);
    }

    @Says("LIKE are two BOOKS of one NET, if LENDS and borrows lead from the one to the other.")
    static void booksOfTwoNetsAreNotLikeEvenIfTheNetsAreTheSame() {
        Check.refused("like(0, 1)", RING.andThen(Settings.book()).andThen(RING).andThen(Settings.book()), x -> x.like(0, 1),
                DebtNet.NO);
    }

    @Says("LIKE are two BOOKS of one NET, if LENDS and borrows lead from the one to the other.")
    static void onePostHasNoLendsThatChange() {
        Check.told("1 and 1", POST.andThen(Settings.book(1)).andThen(Settings.book(1)), x -> x.like(0, 1), 1);
        Check.told("1 and 2", POST.andThen(Settings.book(1)).andThen(Settings.book(2)), x -> x.like(0, 1), 0);
    }

    private static void how(String name, Consumer<DebtNet> setting, int posts, String due) {
        DebtNet x = Settings.made(setting);
        Check.due(name + ": how(0, 1)", x.how(0, 1), posts);
        Check.due(name + ": the row", Check.row(x), due);
    }

    @Says("HOW OFTEN each POST lends (below 0: borrows), the least being 0: told then;")
    static void theLeastIs0AtWhicheverPost() {
        Consumer<DebtNet> zero = PATH.andThen(Settings.book(0, 0, 0));
        how("post 0 lends", zero.andThen(Settings.book(-1, 1, 0)), 3, "1 0 0");
        how("post 0 borrows", zero.andThen(Settings.book(1, -1, 0)), 3, "0 1 1");
        how("post 1 borrows", zero.andThen(Settings.book(-1, 2, -1)), 3, "1 0 1");
        how("post 2 borrows", zero.andThen(Settings.book(0, -1, 1)), 3, "1 1 0");
    }

    @Says("HOW OFTEN each POST lends (below 0: borrows), the least being 0: told then;")
    static void noLendsAreNoughts() {
        how("the same numbers", RING.andThen(Settings.book(1, 2, 3)).andThen(Settings.book(1, 2, 3)), 3, "0 0 0");
        how("the only post", POST.andThen(Settings.book(-4)).andThen(Settings.book(-4)), 1, "0");
    }

    @Says("there is just one such way in a WHOLE NET.")
    static void lendsOfAllPostsLeaveTheWayAsItIs() {
        Consumer<DebtNet> two = RING.andThen(Settings.book(1, 2, 3)).andThen(Settings.book(1, 2, 3));
        how("each lent 100 times", two.andThen(x -> {
            for (int post = 0; post < 3; post++) {
                x.lend(1, post, 100);
            }
        }), 3, "0 0 0");
        how("one lent once more", two.andThen(x -> {
            x.lend(1, 0, 7);
            x.lend(1, 1, 8);
            x.lend(1, 2, 7);
        }), 3, "0 1 0");
    }

    // ---- row 2

    private static void burns(String name, Consumer<DebtNet> setting, int post, int due) {
        Check.told(name + ": burn(0, " + post + ")", setting, x -> x.burn(0, post), due);
    }

    @Says("A FIRE from a POST p in a BOOK: p burns;")
    static void pBurnsWhateverItHas() {
        burns("the only post", POST.andThen(Settings.book(300)), 0, 1);
        burns("300 at p", Settings.path(2).andThen(Settings.book(300, 300)), 0, 1);
        burns("-300 at p", Settings.path(2).andThen(Settings.book(-300, 300)), 0, 1);
        Check.told("100000 at p", Settings.great(100000, 1), x -> x.burn(9, 0), 1);
    }

    @Says("another POST burns, if more ROADS lead from it to burning ones than its number;")
    static void asManyRoadsAsGoodsDoNotBurn() {
        for (int roads = 1; roads <= 4; roads++) {
            Consumer<DebtNet> two = Settings.net(2, String.valueOf(roads));
            burns("as many goods as " + roads + " roads", two.andThen(Settings.book(0, roads)), 0, 1);
            burns("one good less", two.andThen(Settings.book(0, roads - 1)), 0, 3);
        }
    }

    @Says("another POST burns, if more ROADS lead from it to burning ones than its number;")
    static void onlyRoadsToBurningPostsCount() {
        Consumer<DebtNet> star = Settings.net(3, "1" + "04");
        burns("one road to the fire, four to another", star.andThen(Settings.book(0, 1, 0)), 0, 1);
        burns("one road to the fire, no good", star.andThen(Settings.book(0, 0, 4)), 0, 3);
    }

    @Says("another POST burns, if more ROADS lead from it to burning ones than its number;")
    static void noRoadIsMoreThanADebtAndNotMoreThan0() {
        Consumer<DebtNet> apart = Settings.net(2, "");
        burns("a number 0", apart.andThen(Settings.book(0, 0)), 0, 1);
        burns("a number -1", apart.andThen(Settings.book(0, -1)), 0, 3);
    }

    @Says("as long as more burn.")
    static void theFireGoesToTheLastPostAndBack() {
        burns("a path from its end", Settings.path(6).andThen(Settings.book()), 5, 63);
        burns("a path from its start", Settings.path(6).andThen(Settings.book()), 0, 63);
        burns("a post that burns when all others do", Settings.net(6, "1" + "11" + "011" + "0011" + "10001")
                .andThen(Settings.book(0, 2, 0, 0, 0, 0)), 5, 63);
    }

    private static void reduces(String name, Consumer<DebtNet> setting, int post, int others, String due) {
        DebtNet x = Settings.made(setting);
        Check.due(name + ": reduce(0, " + post + ")", x.reduce(0, post), others);
        Check.due(name + ": the book", Check.book(x, 0, x.look(0, 1)), due);
    }

    @Says("A BOOK is REDUCED at p, if no other POST has a number below 0, and the FIRE from p burns all.")
    static void aDebtAtPMayStay() {
        reduces("a debt at p", RING.andThen(Settings.book(-300, 1, 0)), 0, 0, "-300 1 0");
        reduces("a debt beside", RING.andThen(Settings.book(1, -1, 0)), 0, 3, "-1 0 1");
    }

    @Says("A BOOK is REDUCED at p, if no other POST has a number below 0, and the FIRE from p burns all.")
    static void asManyGoodsAsRoadsAreNotReduced() {
        reduces("two posts with a good each", RING.andThen(Settings.book(0, 1, 1)), 0, 3, "2 0 0");
        reduces("one good", RING.andThen(Settings.book(0, 1, 0)), 0, 0, "0 1 0");
        reduces("four goods at four roads", Settings.net(2, "4").andThen(Settings.book(0, 4)), 0, 2, "4 0");
        reduces("three goods at four roads", Settings.net(2, "4").andThen(Settings.book(0, 3)), 0, 0, "0 3");
    }

    @Says("In a WHOLE NET each BOOK is LIKE just one that is REDUCED at p.")
    static void likeBooksBecomeTheSameAndOthersDoNot() {
        DebtNet x = Settings.made(RING.andThen(Settings.book(4, -2, 1)).andThen(Settings.book(4, -2, 1))
                .andThen(Settings.book(4, -1, 0)));
        x.lend(1, 0, 100);
        x.lend(1, 1, -100);
        for (int book = 0; book < 3; book++) {
            x.reduce(book, 1);
        }
        Check.due("same(0, 1)", x.same(0, 1), 1);
        Check.due("same(0, 2)", x.same(0, 2), 0);
        Check.due("like(0, 2)", x.like(0, 2), 0);
    }

    @Says("WON is a BOOK that is LIKE a GOOD one (the one REDUCED at POST 0 has no number below 0 there).")
    static void a0AtPost0IsWonAndMinus1IsNot() {
        Check.told("0 at post 0", RING.andThen(Settings.book(0, 1, 0)), x -> x.won(0), 1);
        Check.told("-1 at post 0, reduced", RING.andThen(Settings.book(-1, 1, 0)), x -> x.won(0), 0);
        Check.told("-1 at post 0, not reduced", RING.andThen(Settings.book(-1, 1, 1)), x -> x.won(0), 1);
        Check.told("noughts", RING.andThen(Settings.book()), x -> x.won(0), 1);
        Check.told("the only post, 0", POST.andThen(Settings.book(0)), x -> x.won(0), 1);
        Check.told("the only post, -1", POST.andThen(Settings.book(-1)), x -> x.won(0), 0);
    }

    private static void rank(String name, Consumer<DebtNet> setting, int due) {
        Check.told(name + ": rank", setting, x -> x.rank(x.count(1) - 1), due);
    }

    @Says("RANK: -1, if it isn't WON;")
    static void notWonIsMinus1WhateverTheDegree() {
        rank("degree -1800", FULLEST.andThen(Settings.path(6)).andThen(Settings.book(-300, -300, -300, -300, -300, -300)), -1);
        rank("degree -1", RING.andThen(Settings.book(-1, 0, 0)), -1);
        rank("degree 0", RING.andThen(Settings.book(1, -1, 0)), -1);
        rank("degree 2, genus 3", Settings.net(2, "4").andThen(Settings.book(-1, 3)), -1);
    }

    @Says("else the greatest r such that each way to take r goods away (1 at a time, at any POSTS) leaves one that is WON.")
    static void wonWithoutAGoodMoreIs0() {
        rank("noughts", RING.andThen(Settings.book()), 0);
        rank("one good", RING.andThen(Settings.book(0, 0, 1)), 0);
        rank("two goods, genus 3, on one post", Settings.net(2, "4").andThen(Settings.book(0, 2)), 0);
    }

    @Says("else the greatest r such that each way to take r goods away (1 at a time, at any POSTS) leaves one that is WON.")
    static void oneWayThatIsNotWonDecides() {
        // From 2 1 0 0 a good can be taken at post 0 or 1, but not at post 2 or 3.
        Consumer<DebtNet> full = Settings.all(4, 1);
        rank("one good each", full.andThen(Settings.book(1, 1, 1, 0)), 1);
        rank("two and one", full.andThen(Settings.book(2, 1, 0, 0)), 0);
    }

    @Says("OWN BOOK of a NET: each POST's ROADS less 2.")
    static void ownNumbersAreFromMinus2To18() {
        DebtNet x = Settings.made(POST.andThen(FULLEST));
        Check.due("own(0)", x.own(0), 0);
        Check.due("one post", Check.book(x, 0, 1), "-2");
        Check.due("own(1)", x.own(1), 1);
        Check.due("the fullest net", Check.book(x, 1, 6), "18 18 18 18 18 18");
    }

    @Says("(The law: RANK of a BOOK, less RANK of OWN less it, is DEGREE and 1 less GENUS;"
            + " so RANK is DEGREE less GENUS, where DEGREE is above 2 GENUS less 2.)")
    static void at2GenusLess2TheOwnBookHasOneMoreThanOthers() {
        String[] genus2To4 = {"111" + "02", "4", "411"};
        int[] posts = {4, 2, 3};
        for (int i = 0; i < posts.length; i++) {
            Consumer<DebtNet> net = Settings.net(posts[i], genus2To4[i]);
            int genus = i + 2;
            Check.due("the genus", Settings.made(net).look(0, 3), genus);
            rank("own of genus " + genus, net.andThen(x -> x.own(0)), genus - 1);
            rank("another of genus " + genus, net.andThen(x -> x.own(0)).andThen(TermsEdges::moveAGood), genus - 2);
            rank("own and a good", net.andThen(x -> x.own(0)).andThen(TermsEdges::addAGood), genus - 1);
            rank("another and a good", net.andThen(x -> x.own(0)).andThen(TermsEdges::moveAGood).andThen(TermsEdges::addAGood),
                    genus - 1);
        }
    }

    private static void moveAGood(DebtNet x) {
        x.put(0, 0, x.at(0, 0) + 1);
        x.put(0, 1, x.at(0, 1) - 1);
    }

    private static void addAGood(DebtNet x) {
        x.put(0, 0, x.at(0, 0) + 1);
    }

    @Says("(The law: RANK of a BOOK, less RANK of OWN less it, is DEGREE and 1 less GENUS;"
            + " so RANK is DEGREE less GENUS, where DEGREE is above 2 GENUS less 2.)")
    static void theLawHoldsForEachDegreeAboutTheEdge() {
        // Own less a book with goods at post 0 from -1 to one beyond the edge, on genus 4.
        for (int goods = -1; goods <= 8; goods++) {
            DebtNet x = Settings.made(Settings.net(3, "411").andThen(Settings.book(goods)));
            x.own(0);
            x.sum(1, 0, true);
            Check.due("the law for " + goods, x.rank(0) - x.rank(2), x.degree(0) + 1 - x.look(0, 3));
        }
    }

    @Says("(The law: RANK of a BOOK, less RANK of OWN less it, is DEGREE and 1 less GENUS;"
            + " so RANK is DEGREE less GENUS, where DEGREE is above 2 GENUS less 2.)")
    static void inATreeTheLawHoldsFromMinus1On() {
        rank("degree -2", PATH.andThen(Settings.book(1, 0, -3)), -1);
        rank("degree -1", PATH.andThen(Settings.book(1, 0, -2)), -1);
        rank("degree 0", PATH.andThen(Settings.book(1, 0, -1)), 0);
        rank("degree 1", PATH.andThen(Settings.book(1, 0, 0)), 1);
    }

    private static void breaks(String name, Consumer<DebtNet> setting, int goods, String due) {
        DebtNet x = Settings.made(setting);
        Check.due(name + ": why(0)", x.why(0), goods);
        Check.due(name + ": the row", Check.row(x), due);
    }

    @Says("BROKEN by: goods whose taking away leaves one that isn't WON, as few as can be (RANK and 1),"
            + " of these the first by numbers taken at POST 0 (the most first), then POST 1, and so on.")
    static void whatIsNotWonIsBrokenByNone() {
        breaks("not won", RING.andThen(Settings.book(1, -1, 0)), 0, "0 0 0");
        breaks("the only post in debt", POST.andThen(Settings.book(-1)), 0, "0");
    }

    @Says("BROKEN by: goods whose taking away leaves one that isn't WON, as few as can be (RANK and 1),"
            + " of these the first by numbers taken at POST 0 (the most first), then POST 1, and so on.")
    static void theMostAtPost0ComesFirstThenPost1() {
        breaks("post 0 breaks", RING.andThen(Settings.book(0, 1, 0)), 1, "1 0 0");
        breaks("post 1 breaks, and 2", RING.andThen(Settings.book(1, 0, 0)), 1, "0 1 0");
        breaks("the last way alone", Settings.net(2, "4").andThen(Settings.book(2, 1)), 2, "0 2");
        breaks("two at post 0", Settings.net(2, "4").andThen(Settings.book(1, 1)), 2, "2 0");
    }

    private static void gonality(String name, Consumer<DebtNet> net, int due) {
        Check.told(name + ": gonality(0)", net, x -> x.gonality(0), due);
    }

    @Says("GONALITY: the least DEGREE of a GOOD BOOK of RANK 1 or more.")
    static void gonalityIs1InEachTreeAndInNoOtherNet() {
        gonality("one post", POST, 1);
        gonality("two posts", Settings.path(2), 1);
        gonality("a path of six", Settings.path(6), 1);
        gonality("a ring", RING, 2);
        gonality("a ring with a path", Settings.net(6, "111" + "001" + "0001" + "00001"), 2);
    }

    @Says("GONALITY: the least DEGREE of a GOOD BOOK of RANK 1 or more.")
    static void gonalityUpToAsManyAsPosts() {
        gonality("two posts", Settings.net(2, "2"), 2);
        gonality("two posts, four roads", Settings.net(2, "4"), 2);
        gonality("three posts, two roads each", Settings.net(3, "222"), 3);
        gonality("four posts, each with each", Settings.all(4, 1), 3);
    }

    // ---- row 3

    private static void trees(String name, Consumer<DebtNet> net, long due) {
        Check.told(name + ": trees(0)", net, x -> x.trees(0), due);
    }

    @Says("TREES of a WHOLE NET: how many ways there are to leave out ROADS so that it is a TREE"
            + " (ROADS between the same POSTS are told apart).")
    static void aTreeHasOneWayToLeaveOutNone() {
        trees("one post", POST, 1);
        trees("a path", Settings.path(6), 1);
    }

    @Says("TREES of a WHOLE NET: how many ways there are to leave out ROADS so that it is a TREE"
            + " (ROADS between the same POSTS are told apart).")
    static void roadsBetweenTheSamePostsAreToldApart() {
        trees("four roads", Settings.net(2, "4"), 4);
        trees("four and four in a row", Settings.net(3, "404"), 16);
        trees("the most", FULLEST, 1327104);
    }

    @Says("FACTORS of the GROUP, f(0), f(1), .. f(n - 2): with d(k) the greatest number that divides all determinants"
            + " of k rows and k columns of the table (ROADS OF each POST on the line, less ROADS elsewhere) without POST 0"
            + " (d(0) = 1): f(k) = d(k + 1) / d(k).")
    static void theFirstFactorDividesBy1AndTheLastIsFNLess2() {
        Check.told("f(0), the only one", Settings.net(2, "3"), x -> x.factor(0, 0), 3);
        Check.told("f(0)", Settings.net(3, "222"), x -> x.factor(0, 0), 2);
        Check.told("f(1), the last", Settings.net(3, "222"), x -> x.factor(0, 1), 6);
        Check.told("f(0) of six", FULLEST, x -> x.factor(0, 0), 4);
        Check.told("f(4), the last of six", FULLEST, x -> x.factor(0, 4), 24);
        Check.refusedByNought("f(2) of three", Settings.net(3, "222"), x -> x.factor(0, 2), DebtNet.BEYOND);
        Check.refusedByNought("f(5) of six", FULLEST, x -> x.factor(0, 5), DebtNet.BEYOND);
    }

    @Says("FACTORS of the GROUP, f(0), f(1), .. f(n - 2): with d(k) the greatest number that divides all determinants"
            + " of k rows and k columns of the table (ROADS OF each POST on the line, less ROADS elsewhere) without POST 0"
            + " (d(0) = 1): f(k) = d(k + 1) / d(k).")
    static void oneLonePostHasNoFactor() {
        Check.refusedByNought("f(0) of one", POST, x -> x.factor(0, 0), DebtNet.BEYOND);
        Check.refusedByNought("f(-1) of one", POST, x -> x.factor(0, -1), DebtNet.BEYOND);
    }

    private static void order(String name, Consumer<DebtNet> setting, long due) {
        Check.told(name + ": order(0)", setting, x -> x.order(0), due);
    }

    @Says("ORDER of a BOOK of DEGREE 0: the least number above 0 that makes it, times that, LIKE the one of noughts.")
    static void noughtsAndWhatIsLikeThemHaveOrder1() {
        order("noughts", RING.andThen(Settings.book()), 1);
        order("like noughts", RING.andThen(Settings.book(-2, 1, 1)), 1);
        order("the only post", POST.andThen(Settings.book()), 1);
        order("a tree", PATH.andThen(Settings.book(300, 0, -300)), 1);
    }

    @Says("ORDER of a BOOK of DEGREE 0: the least number above 0 that makes it, times that, LIKE the one of noughts.")
    static void theLeastOfAllSuchNumbers() {
        order("6 would do, 3 is less", Settings.ring(6).andThen(Settings.book(2, -2, 0, 0, 0, 0)), 3);
        order("6 would do, 2 is less", Settings.ring(6).andThen(Settings.book(3, -3, 0, 0, 0, 0)), 2);
        order("6", Settings.ring(6).andThen(Settings.book(1, -1, 0, 0, 0, 0)), 6);
    }

    private static void resist(String name, Consumer<DebtNet> net, int a, int b, long upper, long lower) {
        Check.told(name + ": upper", net, x -> x.resist(0, a, b, false), upper);
        Check.told(name + ": lower", net, x -> x.resist(0, a, b, true), lower);
    }

    @Says("RESIST of two POSTS: TREES of the NET in which they are put together as one POST"
            + " (ROADS between them gone), divided by TREES; 0 of one with itself.")
    static void theRoadsBetweenThemAreGone() {
        resist("two posts become one", Settings.net(2, "4"), 0, 1, 1, 4);
        resist("a ring of three becomes two roads", RING, 0, 2, 2, 3);
        resist("all but the two posts' roads", Settings.net(3, "411"), 0, 1, 2, 9);
    }

    @Says("RESIST of two POSTS: TREES of the NET in which they are put together as one POST"
            + " (ROADS between them gone), divided by TREES; 0 of one with itself.")
    static void oneWithItselfIs0() {
        for (int post = 0; post < 3; post++) {
            resist("post " + post, RING, post, post, 0, 1);
        }
        resist("the only post", POST, 0, 0, 0, 1);
    }

    private static void falls(String name, Consumer<DebtNet> setting, int post, int lends, String due) {
        DebtNet x = Settings.made(setting);
        Check.due(name + ": fall(0, " + post + ")", x.fall(0, post), lends);
        Check.due(name + ": the book", Check.book(x, 0, x.look(0, 1)), due);
    }

    @Says("HEAPS: a BOOK falls at p: as long as some other POST has as much as ROADS OF it (and has one), it LENDS;")
    static void asMuchAsRoadsLendsAndOneLessDoesNot() {
        for (int roads = 1; roads <= 4; roads++) {
            Consumer<DebtNet> two = Settings.net(2, String.valueOf(roads));
            falls(roads + " goods, as many roads", two.andThen(Settings.book(0, roads)), 0, 1, roads + " 0");
            falls("one good less", two.andThen(Settings.book(0, roads - 1)), 0, 0, "0 " + (roads - 1));
        }
        falls("a good in the middle of a path", PATH.andThen(Settings.book(0, 1, 0)), 0, 0, "0 1 0");
    }

    @Says("HEAPS: a BOOK falls at p: as long as some other POST has as much as ROADS OF it (and has one), it LENDS;")
    static void theOnlyPostHasNoRoadAndDoesNotLend() {
        falls("goods", POST.andThen(Settings.book(300)), 0, 0, "300");
        falls("none", POST.andThen(Settings.book(0)), 0, 0, "0");
    }

    @Says("(p never does; the order doesn't matter): it is STILL then.")
    static void pNeverLends() {
        falls("300 at p", RING.andThen(Settings.book(1, 300, 1)), 1, 0, "1 300 1");
        falls("more at p on the way", Settings.path(2).andThen(Settings.book(300, 5)), 0, 5, "305 0");
    }

    @Says("(p never does; the order doesn't matter): it is STILL then.")
    static void twoHeapsFallTheSameFromEitherSide() {
        falls("from one side", Settings.path(4).andThen(Settings.book(0, 2, 1, 1)), 0, 9, "2 1 1 0");
        falls("from the other", Settings.path(4).andThen(Settings.book(1, 1, 2, 0)), 3, 9, "0 1 1 2");
    }

    @Says("(p never does; the order doesn't matter): it is STILL then.")
    static void aStillBookDoesNotFallAgain() {
        DebtNet x = Settings.made(Settings.path(6).andThen(Settings.book(0, 0, 0, 0, 0, 30)));
        Check.due("it falls", x.fall(0, 0) > 0 ? 1 : 0, 1);
        Check.due("it is still", x.fall(0, 0), 0);
    }

    // ---- row 4

    @Says("REFUSALS, of several the first as each line has them:")
    static void ofThreeThatFitTheFirstIsTold() {
        Check.refused("gonality: not whole, genus above 4", Settings.bench(), x -> x.gonality(1), DebtNet.KIND);
        Check.refused("why: a book beyond", Settings.bench(), x -> x.why(4), DebtNet.BEYOND);
    }

    @Says("BEYOND a number beyond,")
    static void beyondIsANumberBeyond() {
        Check.refused("burn(0, 3)", Settings.bench(), x -> x.burn(0, 3), DebtNet.BEYOND);
    }

    @Says("MISSING nothing there,")
    static void missingIsNothingThere() {
        Check.refused("drop()", RING, DebtNet::drop, DebtNet.MISSING);
        Check.refused("copy(0, 0, 0)", RING, x -> x.copy(0, 0, 0), DebtNet.MISSING);
    }

    @Says("KIND a NET that is not WHOLE,")
    static void kindIsANetThatIsNotWhole() {
        Check.refused("won(2)", Settings.bench(), x -> x.won(2), DebtNet.KIND);
    }

    @Says("BELOW a count below 0,")
    static void belowIsACountBelow0() {
        Check.refused("copy(0, 0, -1)", Settings.bench(), x -> x.copy(0, 0, -1), DebtNet.BELOW);
    }

    @Says("COPY,")
    static void copyIsACopyThatCannotBeMade() {
        Check.refused("copy(0, 0, 4)", Settings.bench(), x -> x.copy(0, 0, 4), DebtNet.COPY);
    }

    @Says("NO not as told,")
    static void noIsNotAsTold() {
        Check.refused("count(2)", Settings.bench(), x -> x.count(2), DebtNet.NO);
    }

    @Says("FULL no room, a number beyond,")
    static void fullIsNoRoomOrANumberBeyond() {
        Check.refused("net(1)", Settings.fullBench(), x -> x.net(1), DebtNet.FULL);
        Check.refused("lendAll(9, 2)", Settings.great(100000, 0), x -> x.lendAll(9, 2), DebtNet.FULL);
    }

    @Says("SPENT.")
    static void spentIsTooManyLends() {
        Check.refused("fall(8, 0)", Settings.path(3).andThen(Settings.bookOf(0, 0, 0, 300)).andThen(x -> {
            for (int book = 0; book < 8; book++) {
                x.sum(book, book, false);
            }
        }), x -> x.fall(8, 0), DebtNet.SPENT);
    }

    @Says("A refused call changes nothing but status().")
    static void refusedCallsInARowChangeNothing() {
        DebtNet x = Settings.made(Settings.fullBench());
        String before = Check.state(x);
        x.net(1);
        x.road(0, 0, 1, 4);
        x.book(0);
        x.put(0, 0, 301);
        x.lend(0, 0, 101);
        x.lendAll(0, 8);
        x.own(0);
        x.sum(0, 1, false);
        x.reduce(2, 0);
        x.how(0, 3);
        x.why(3);
        x.fall(0, 0);
        x.lay(0, 3);
        x.copy(0, 2, 2);
        Check.due("the state", Check.state(x), before);
    }
}

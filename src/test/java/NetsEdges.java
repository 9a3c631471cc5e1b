import java.util.function.Consumer;

/** Edges that the lines of promises 1 to 9 name: each test tells its sentence. */
final class NetsEdges {
    private static final int MIN = Integer.MIN_VALUE;
    private static final int MAX = Integer.MAX_VALUE;
    private static final Consumer<DebtNet> BENCH = Settings.bench();
    private static final Consumer<DebtNet> FULL_BENCH = Settings.fullBench();
    private static final Consumer<DebtNet> RING = Settings.ring(3).andThen(x -> x.lay(0, 0));

    private NetsEdges() {
    }

    // ---- promise 1

    @Says(promise = 1, value = "No NETS, no BOOKS.")
    static void aNewObjectHasNoNets() {
        Check.told("count(0)", Settings.NOTHING, x -> x.count(0), 0);
        Check.due("net(1)", new DebtNet().net(1), 0);
        Check.refused("road(0, 0, 0, 0)", Settings.NOTHING, x -> x.road(0, 0, 0, 0), DebtNet.BEYOND);
        Check.refused("look(0, 0)", Settings.NOTHING, x -> x.look(0, 0), DebtNet.BEYOND);
        Check.refused("roads(0, 0, NONE)", Settings.NOTHING, x -> x.roads(0, 0, DebtNet.NONE), DebtNet.BEYOND);
        Check.refusedByNought("trees(0)", Settings.NOTHING, x -> x.trees(0), DebtNet.BEYOND);
        Check.refusedByNought("factor(0, 0)", Settings.NOTHING, x -> x.factor(0, 0), DebtNet.BEYOND);
        Check.refusedByNought("resist(0, 0, 0, true)", Settings.NOTHING, x -> x.resist(0, 0, 0, true), DebtNet.BEYOND);
        Check.refused("gonality(0)", Settings.NOTHING, x -> x.gonality(0), DebtNet.BEYOND);
        Check.refused("book(0)", Settings.NOTHING, x -> x.book(0), DebtNet.BEYOND);
        Check.refused("own(0)", Settings.NOTHING, x -> x.own(0), DebtNet.BEYOND);
        Check.refused("lay(0, 0)", Settings.NOTHING, x -> x.lay(0, 0), DebtNet.BEYOND);
    }

    @Says(promise = 1, value = "No NETS, no BOOKS.")
    static void aNewObjectHasNoBooksToTellOf() {
        Check.told("count(1)", RING, x -> x.count(1), 0);
        Check.refusedByNought("put(0, 0, 0)", RING, x -> x.put(0, 0, 0), DebtNet.BEYOND);
        Check.refusedByNought("at(0, 0)", RING, x -> x.at(0, 0), DebtNet.BEYOND);
        Check.refusedByNought("degree(0)", RING, x -> x.degree(0), DebtNet.BEYOND);
        Check.refused("good(0)", RING, x -> x.good(0), DebtNet.BEYOND);
        Check.refusedByNought("lend(0, 0, 0)", RING, x -> x.lend(0, 0, 0), DebtNet.BEYOND);
        Check.refused("lendAll(0, 0)", RING, x -> x.lendAll(0, 0), DebtNet.BEYOND);
        Check.refused("sum(0, 0, false)", RING, x -> x.sum(0, 0, false), DebtNet.BEYOND);
        Check.refused("drop()", RING, DebtNet::drop, DebtNet.MISSING);
    }

    @Says(promise = 1, value = "No NETS, no BOOKS.")
    static void aNewObjectHasNoBooksToLead() {
        Check.refused("burn(0, 0)", RING, x -> x.burn(0, 0), DebtNet.BEYOND);
        Check.refused("reduce(0, 0)", RING, x -> x.reduce(0, 0), DebtNet.BEYOND);
        Check.refused("like(0, 0)", RING, x -> x.like(0, 0), DebtNet.BEYOND);
        Check.refused("how(0, 0)", RING, x -> x.how(0, 0), DebtNet.BEYOND);
        Check.refused("won(0)", RING, x -> x.won(0), DebtNet.BEYOND);
        Check.refused("rank(0)", RING, x -> x.rank(0), DebtNet.BEYOND);
        Check.refused("why(0)", RING, x -> x.why(0), DebtNet.BEYOND);
        Check.refusedByNought("order(0)", RING, x -> x.order(0), DebtNet.BEYOND);
        Check.refused("fall(0, 0)", RING, x -> x.fall(0, 0), DebtNet.BEYOND);
        Check.refused("same(0, 0)", RING, x -> x.same(0, 0), DebtNet.BEYOND);
    }

    @Says(promise = 1, value = "No NETS, no BOOKS.")
    static void aNewObjectHasNoRowAndNoRefusals() {
        Check.told("tear()", Settings.NOTHING, DebtNet::tear, 0);
        for (int code = DebtNet.SPENT; code <= DebtNet.MISSING; code++) {
            Check.due("status(" + code + ")", new DebtNet().status(code), 0);
        }
    }

    @Says(promise = 1, value = "No NETS, no BOOKS.")
    static void aNewObjectHasNothingOfAnotherOne() {
        DebtNet other = Settings.made(FULL_BENCH);
        other.net(0);
        DebtNet x = new DebtNet();
        Check.due("the state", Check.state(x), "row: missing");
        Check.due("status(NO)", new DebtNet().status(DebtNet.NO), 0);
    }

    // ---- promise 2

    @Says(promise = 2, value = "A NET of n POSTS: its number.")
    static void eachCountOfPostsIsTaken() {
        for (int n = 1; n <= 6; n++) {
            DebtNet x = new DebtNet();
            Check.due("net(" + n + ")", x.net(n), 0);
            Check.due("its posts", x.look(0, 1), n);
        }
    }

    @Says(promise = 2, value = "NO, FULL.")
    static void noPostsAndMoreThanSixAreNotAsTold() {
        for (int wrong : new int[] {0, 7, -1, MIN, MAX}) {
            Check.refused("net(" + wrong + ")", BENCH, x -> x.net(wrong), DebtNet.NO);
        }
    }

    @Says(promise = 2, value = "NO, FULL.")
    static void theFourthNetHasRoomAndTheFifthHasNone() {
        Check.due("a fourth", Settings.made(BENCH).net(6), 3);
        for (int n = 1; n <= 6; n++) {
            int posts = n;
            Check.refused("a fifth of " + posts, FULL_BENCH, x -> x.net(posts), DebtNet.FULL);
        }
    }

    @Says(promise = 2, value = "NO, FULL.")
    static void aFifthNetOfWrongPostsIsNotAsToldFirst() {
        for (int wrong : new int[] {0, 7, -1, MIN, MAX}) {
            Check.refused("net(" + wrong + ")", FULL_BENCH, x -> x.net(wrong), DebtNet.NO);
        }
    }

    // ---- promise 3

    @Says(promise = 3, value = "Two POSTS have k ROADS: how many before.")
    static void roadsAreLaidFromEitherPostAndTheLastCallCounts() {
        DebtNet x = Settings.made(Settings.net(6, ""));
        for (int k = 0; k <= 4; k++) {
            Check.due("road(0, 0, 5, " + k + ")", x.road(0, 0, 5, k), k == 0 ? 0 : k - 1);
        }
        Check.due("road(0, 5, 0, 1)", x.road(0, 5, 0, 1), 4);
        Check.due("roads(0, 0, 5)", x.roads(0, 0, 5), 1);
        Check.due("roads(0, 5, 0)", x.roads(0, 5, 0), 1);
        Check.due("roads in all", x.look(0, 2), 1);
    }

    @Says(promise = 3, value = "BEYOND (NET, POSTS),")
    static void aNetBeyondHasNoRoads() {
        for (int wrong : Settings.beside(3)) {
            Check.refused("road(" + wrong + ", 0, 1, 1)", BENCH, x -> x.road(wrong, 0, 1, 1), DebtNet.BEYOND);
        }
    }

    @Says(promise = 3, value = "BEYOND (NET, POSTS),")
    static void postsBeyondHaveNoRoads() {
        for (int wrong : Settings.beside(3)) {
            Check.refused("road(0, " + wrong + ", 1, 1)", RING, x -> x.road(0, wrong, 1, 1), DebtNet.BEYOND);
            Check.refused("road(0, 1, " + wrong + ", 1)", RING, x -> x.road(0, 1, wrong, 1), DebtNet.BEYOND);
        }
        DebtNet x = Settings.made(RING);
        Check.due("the last post", x.road(0, 2, 0, 3), 1);
    }

    @Says(promise = 3, value = "NO: k,")
    static void fewerThan0AndMoreThan4RoadsAreNotAsTold() {
        for (int wrong : new int[] {-1, 5, MIN, MAX}) {
            Check.refused("road(0, 0, 1, " + wrong + ")", RING, x -> x.road(0, 0, 1, wrong), DebtNet.NO);
        }
    }

    @Says(promise = 3, value = "one with itself,")
    static void aPostHasNoRoadsWithItself() {
        for (int each = 0; each < 3; each++) {
            int post = each;
            Check.refused("road(0, " + post + ", " + post + ", 1)", RING, x -> x.road(0, post, post, 1), DebtNet.NO);
            Check.refused("nor 0 of them", RING, x -> x.road(0, post, post, 0), DebtNet.NO);
        }
        Check.refused("nor the only post", Settings.path(1), x -> x.road(0, 0, 0, 1), DebtNet.NO);
    }

    @Says(promise = 3, value = "the NET has BOOKS.")
    static void aNetWithABookKeepsItsRoads() {
        Check.refused("road, one book", RING.andThen(x -> x.book(0)), x -> x.road(0, 0, 1, 2), DebtNet.NO);
        Check.refused("road, own", RING.andThen(x -> x.own(0)), x -> x.road(0, 0, 1, 2), DebtNet.NO);
        Check.refused("road, as many as before", RING.andThen(x -> x.book(0)), x -> x.road(0, 0, 1, 1), DebtNet.NO);
        Check.refused("road, the latest of ten books", RING.andThen(Settings.path(2)).andThen(x -> {
            for (int book = 0; book < 9; book++) {
                x.book(1);
            }
            x.book(0);
        }), x -> x.road(0, 0, 1, 2), DebtNet.NO);
    }

    @Says(promise = 3, value = "the NET has BOOKS.")
    static void aNetWithoutBooksMayChangeBesideOneWithThem() {
        DebtNet x = Settings.made(RING.andThen(Settings.ring(3)));
        x.book(1);
        Check.due("road of net 0", x.road(0, 0, 1, 2), 1);
        x.drop();
        Check.due("road of net 1, whose book went", x.road(1, 0, 1, 2), 1);
    }

    @Says(promise = 3, value = "BEYOND (NET, POSTS), NO: k, one with itself, the NET has BOOKS.")
    static void beyondIsToldBeforeAllThatIsNotAsTold() {
        for (int wrong : new int[] {-1, 3, MIN, MAX}) {
            Check.refused("a net and k", BENCH, x -> x.road(wrong, 0, 1, 5), DebtNet.BEYOND);
            Check.refused("a net, one with itself", BENCH, x -> x.road(wrong, 0, 0, 1), DebtNet.BEYOND);
            Check.refused("posts and k", RING, x -> x.road(0, wrong, 0, 5), DebtNet.BEYOND);
            Check.refused("a post with itself", RING, x -> x.road(0, wrong, wrong, 1), DebtNet.BEYOND);
            Check.refused("a post of a net that has books", BENCH, x -> x.road(0, wrong, 0, 1), DebtNet.BEYOND);
            Check.refused("another post of it", BENCH, x -> x.road(0, 0, wrong, 1), DebtNet.BEYOND);
        }
    }

    // ---- promise 4

    @Says(promise = 4, value = "Of a NET: KIND (what = 0), POSTS (1), ROADS (2), GENUS (3), whether it is WHOLE (4).")
    static void whatIsFrom0To4() {
        long[] due = {3, 3, 4, 2, 1};
        for (int i = 0; i < due.length; i++) {
            int what = i;
            Check.told("look(0, " + what + ")", BENCH, x -> x.look(0, what), due[what]);
        }
    }

    @Says(promise = 4, value = "Of a NET: KIND (what = 0), POSTS (1), ROADS (2), GENUS (3), whether it is WHOLE (4).")
    static void aNetWithoutRoadsIsLookedAtToo() {
        long[] due = {3, 6, 0, -5, 0};
        for (int i = 0; i < due.length; i++) {
            int what = i;
            Check.told("look(0, " + what + ")", Settings.net(6, ""), x -> x.look(0, what), due[what]);
        }
    }

    @Says(promise = 4, value = "BEYOND, NO.")
    static void aNetBeyondIsNotLookedAt() {
        for (int wrong : Settings.beside(3)) {
            for (int i = 0; i < 5; i++) {
                int what = i;
                Check.refused("look(" + wrong + ", " + what + ")", BENCH, x -> x.look(wrong, what), DebtNet.BEYOND);
            }
        }
    }

    @Says(promise = 4, value = "BEYOND, NO.")
    static void whatBeside0To4IsNotAsTold() {
        for (int wrong : Settings.beside(5)) {
            Check.refused("look(0, " + wrong + ")", BENCH, x -> x.look(0, wrong), DebtNet.NO);
        }
    }

    @Says(promise = 4, value = "BEYOND, NO.")
    static void ofANetBeyondWhatDoesNotMatter() {
        for (int wrong : Settings.beside(5)) {
            Check.refused("look(" + wrong + ", " + wrong + ")", BENCH, x -> x.look(wrong, wrong), DebtNet.BEYOND);
        }
    }

    // ---- promise 5

    @Says(promise = 5, value = "ROADS OF a POST (other = NONE), or between two (0 of one with itself).")
    static void noneAsksForAllRoadsOfThePost() {
        Check.told("roads(2, 0, NONE)", BENCH, x -> x.roads(2, 0, DebtNet.NONE), 6);
        Check.told("roads(2, 2, NONE)", BENCH, x -> x.roads(2, 2, DebtNet.NONE), 3);
        Check.told("roads(1, 5, NONE)", BENCH, x -> x.roads(1, 5, DebtNet.NONE), 0);
    }

    @Says(promise = 5, value = "ROADS OF a POST (other = NONE), or between two (0 of one with itself).")
    static void betweenTwo0To4() {
        Check.told("roads(1, 0, 1)", BENCH, x -> x.roads(1, 0, 1), 4);
        Check.told("roads(1, 4, 5)", BENCH, x -> x.roads(1, 4, 5), 0);
    }

    @Says(promise = 5, value = "ROADS OF a POST (other = NONE), or between two (0 of one with itself).")
    static void ofOneWithItself0() {
        for (int each = 0; each < 6; each++) {
            int post = each;
            Check.told("roads(0, " + post + ", " + post + ")", Settings.all(6, 4), x -> x.roads(0, post, post), 0);
        }
    }

    @Says(promise = 5, value = "BEYOND.")
    static void aNetOrAPostBeyond() {
        for (int wrong : Settings.beside(3)) {
            Check.refused("roads(" + wrong + ", 0, 1)", BENCH, x -> x.roads(wrong, 0, 1), DebtNet.BEYOND);
            Check.refused("roads(" + wrong + ", 0, NONE)", BENCH, x -> x.roads(wrong, 0, DebtNet.NONE), DebtNet.BEYOND);
            Check.refused("roads(0, " + wrong + ", 1)", BENCH, x -> x.roads(0, wrong, 1), DebtNet.BEYOND);
            Check.refused("roads(0, " + wrong + ", NONE)", BENCH, x -> x.roads(0, wrong, DebtNet.NONE), DebtNet.BEYOND);
        }
    }

    @Says(promise = 5, value = "BEYOND.")
    static void anotherPostBeyondThatIsNotNone() {
        for (int wrong : new int[] {-2, 3, 4, MIN, MAX}) {
            Check.refused("roads(0, 1, " + wrong + ")", BENCH, x -> x.roads(0, 1, wrong), DebtNet.BEYOND);
        }
    }

    // ---- promise 6

    @Says(promise = 6, value = "TREES.")
    static void oneTreeIsTheLeast() {
        Check.told("the only post", Settings.path(1), x -> x.trees(0), 1);
        Check.told("net 0", BENCH, x -> x.trees(0), 5);
    }

    @Says(promise = 6, value = "BEYOND, KIND: 0, and status() tells of it.")
    static void treesOfANetBeyondTell0() {
        for (int wrong : Settings.beside(3)) {
            Check.refusedByNought("trees(" + wrong + ")", BENCH, x -> x.trees(wrong), DebtNet.BEYOND);
        }
    }

    @Says(promise = 6, value = "BEYOND, KIND: 0, and status() tells of it.")
    static void treesOfANetThatIsNotWholeTell0() {
        Check.refusedByNought("trees(1)", BENCH, x -> x.trees(1), DebtNet.KIND);
        Check.refusedByNought("two posts without a road", Settings.net(2, ""), x -> x.trees(0), DebtNet.KIND);
    }

    // ---- promise 7

    @Says(promise = 7, value = "FACTOR k.")
    static void kIsFrom0ToNLess2() {
        Check.told("factor(0, 0)", BENCH, x -> x.factor(0, 0), 1);
        Check.told("factor(0, 1)", BENCH, x -> x.factor(0, 1), 5);
    }

    @Says(promise = 7, value = "BEYOND (NET),")
    static void factorsOfANetBeyondTell0() {
        for (int wrong : Settings.beside(3)) {
            Check.refusedByNought("factor(" + wrong + ", 0)", BENCH, x -> x.factor(wrong, 0), DebtNet.BEYOND);
        }
    }

    @Says(promise = 7, value = "KIND,")
    static void factorsOfANetThatIsNotWholeTell0() {
        Check.refusedByNought("factor(1, 0)", BENCH, x -> x.factor(1, 0), DebtNet.KIND);
    }

    @Says(promise = 7, value = "BEYOND (k): 0 likewise.")
    static void kBelow0AndAboveNLess2IsBeyond() {
        for (int n = 1; n <= 6; n++) {
            for (int wrong : Settings.beside(n - 1)) {
                Check.refusedByNought("factor(0, " + wrong + ") of " + n, Settings.path(n), x -> x.factor(0, wrong), DebtNet.BEYOND);
            }
        }
    }

    @Says(promise = 7, value = "BEYOND (NET), KIND, BEYOND (k): 0 likewise.")
    static void kindIsToldBetweenTheNetAndK() {
        for (int wrong : new int[] {-1, 5, MIN, MAX}) {
            Check.refusedByNought("k and not whole", BENCH, x -> x.factor(1, wrong), DebtNet.KIND);
            Check.refusedByNought("k and a net beyond", BENCH, x -> x.factor(wrong, wrong), DebtNet.BEYOND);
        }
    }

    // ---- promise 8

    @Says(promise = 8, value = "RESIST of two POSTS: the upper (lower false), or lower number, in lowest terms (0 / 1).")
    static void noughtIs0Over1() {
        for (int each = 0; each < 3; each++) {
            int post = each;
            Check.told("upper", BENCH, x -> x.resist(0, post, post, false), 0);
            Check.told("lower", BENCH, x -> x.resist(0, post, post, true), 1);
        }
    }

    @Says(promise = 8, value = "RESIST of two POSTS: the upper (lower false), or lower number, in lowest terms (0 / 1).")
    static void commonDivisorsAreGone() {
        // 8 trees of 16, and 4 of 4.
        Check.told("upper", Settings.all(4, 1), x -> x.resist(0, 0, 3, false), 1);
        Check.told("lower", Settings.all(4, 1), x -> x.resist(0, 0, 3, true), 2);
        Check.told("upper", Settings.net(3, "404"), x -> x.resist(0, 0, 1, false), 1);
        Check.told("lower", Settings.net(3, "404"), x -> x.resist(0, 0, 1, true), 4);
        Check.told("upper of 5", Settings.path(6), x -> x.resist(0, 0, 5, false), 5);
        Check.told("lower of 5", Settings.path(6), x -> x.resist(0, 0, 5, true), 1);
    }

    @Says(promise = 8, value = "BEYOND, KIND: 0 likewise.")
    static void netsAndPostsBeyondTell0() {
        for (boolean lower : new boolean[] {false, true}) {
            for (int wrong : Settings.beside(3)) {
                Check.refusedByNought("resist(" + wrong + ", 0, 1)", BENCH, x -> x.resist(wrong, 0, 1, lower), DebtNet.BEYOND);
                Check.refusedByNought("resist(0, " + wrong + ", 1)", BENCH, x -> x.resist(0, wrong, 1, lower), DebtNet.BEYOND);
                Check.refusedByNought("resist(0, 1, " + wrong + ")", BENCH, x -> x.resist(0, 1, wrong, lower), DebtNet.BEYOND);
                Check.refusedByNought("one beyond with itself", BENCH, x -> x.resist(0, wrong, wrong, lower), DebtNet.BEYOND);
            }
        }
    }

    @Says(promise = 8, value = "BEYOND, KIND: 0 likewise.")
    static void aNetThatIsNotWholeTells0EvenOfOneWithItself() {
        for (boolean lower : new boolean[] {false, true}) {
            Check.refusedByNought("resist(1, 0, 1)", BENCH, x -> x.resist(1, 0, 1, lower), DebtNet.KIND);
            Check.refusedByNought("resist(1, 5, 5)", BENCH, x -> x.resist(1, 5, 5, lower), DebtNet.KIND);
        }
    }

    @Says(promise = 8, value = "BEYOND, KIND: 0 likewise.")
    static void postsBeyondAreToldBeforeANetThatIsNotWhole() {
        for (boolean lower : new boolean[] {false, true}) {
            for (int wrong : Settings.beside(6)) {
                Check.refusedByNought("the first", BENCH, x -> x.resist(1, wrong, 0, lower), DebtNet.BEYOND);
                Check.refusedByNought("the second", BENCH, x -> x.resist(1, 0, wrong, lower), DebtNet.BEYOND);
            }
        }
    }

    // ---- promise 9

    @Says(promise = 9, value = "GONALITY.")
    static void oneIsTheLeast() {
        Check.told("the only post", Settings.path(1), x -> x.gonality(0), 1);
        Check.told("net 0", BENCH, x -> x.gonality(0), 2);
    }

    @Says(promise = 9, value = "BEYOND, KIND, NO: GENUS above 4.")
    static void gonalityOfANetBeyond() {
        for (int wrong : Settings.beside(3)) {
            Check.refused("gonality(" + wrong + ")", BENCH, x -> x.gonality(wrong), DebtNet.BEYOND);
        }
    }

    @Says(promise = 9, value = "BEYOND, KIND, NO: GENUS above 4.")
    static void gonalityOfANetThatIsNotWhole() {
        Check.refused("without a road", Settings.net(2, ""), x -> x.gonality(0), DebtNet.KIND);
        Check.refused("of genus 4", Settings.net(4, "422"), x -> x.gonality(0), DebtNet.KIND);
    }

    @Says(promise = 9, value = "BEYOND, KIND, NO: GENUS above 4.")
    static void genus4IsTakenAndGenus5IsNot() {
        Check.told("genus 4 of three posts", Settings.net(3, "411"), x -> x.gonality(0), 2);
        Check.refused("genus 5 of three posts", Settings.net(3, "421"), x -> x.gonality(0), DebtNet.NO);
        Check.told("genus 4 of six posts", Settings.ring(6).andThen(x -> x.road(0, 0, 1, 4)), x -> x.gonality(0), 2);
        Check.refused("genus 5 of six posts", Settings.ring(6).andThen(x -> x.road(0, 0, 1, 4)).andThen(x -> x.road(0, 2, 3, 2)),
                x -> x.gonality(0), DebtNet.NO);
        Check.refused("genus 55", Settings.all(6, 4), x -> x.gonality(0), DebtNet.NO);
    }

    @Says(promise = 9, value = "BEYOND, KIND, NO: GENUS above 4.")
    static void notWholeIsToldBeforeGenusAbove4() {
        Check.refused("genus 7, not whole", BENCH, x -> x.gonality(1), DebtNet.KIND);
        Check.refused("genus 5, not whole", Settings.net(4, "422").andThen(x -> x.road(0, 0, 2, 3)), x -> x.gonality(0), DebtNet.KIND);
    }
}

import java.util.function.Consumer;

/** Promises 20 to 30: ordinary calls, the edges that the document names, each refusal, wrong inputs. */
public final class ReducingTest {
    private static final Consumer<DebtNet> RING = Settings.ring(3).andThen(Settings.book(0, 3, 0));
    private static final Consumer<DebtNet> APART = Settings.net(5, "444444").andThen(Settings.book(1, 2, 3, 4, 5));
    private static final Consumer<DebtNet> GENUS_5 = Settings.net(3, "421").andThen(Settings.book(1));
    // Books 0 and 1 of one net, 2 of another.
    private static final Consumer<DebtNet> THREE =
            RING.andThen(Settings.book(1, 1, 1)).andThen(Settings.ring(3)).andThen(Settings.book(1, 1, 1)).andThen(x -> x.lay(0, 0));

    public static void main(String[] args) {
        promise20();
        promise21();
        promise22();
        promise23();
        promise24();
        promise25();
        promise26();
        promise27();
        promise28();
        promise29();
        promise30();
        Check.end("ReducingTest");
    }

    private static void promise20() {
        Check.part("promise 20");
        Consumer<DebtNet> ring = Settings.ring(4);
        Check.told("two posts hold", ring.andThen(Settings.book(0, 1, 0, 1)), x -> x.burn(0, 0), 1);
        Check.told("one post holds till both sides burn", ring.andThen(Settings.book(0, 1, 0, 0)), x -> x.burn(0, 0), 15);
        Check.told("two goods hold two roads", ring.andThen(Settings.book(0, 2, 0, 0)), x -> x.burn(0, 0), 13);
        Check.told("goods of the first one do not matter", ring.andThen(Settings.book(9, 0, 0, 0)), x -> x.burn(0, 0), 15);
        Check.told("fire from another", ring.andThen(Settings.book(1, 0, 1, 0)), x -> x.burn(0, 3), 8);
        Check.told("fire back from the last", Settings.path(6).andThen(Settings.book()), x -> x.burn(0, 5), 63);
        Check.told("two roads burn one good", Settings.net(2, "2").andThen(Settings.book(0, 1)), x -> x.burn(0, 0), 3);
        Check.told("two roads, two goods", Settings.net(2, "2").andThen(Settings.book(0, 2)), x -> x.burn(0, 0), 1);
        Check.told("posts apart", Settings.net(3, "").andThen(Settings.book()), x -> x.burn(0, 1), 2);
        Check.told("a debt is less than no road", Settings.net(3, "").andThen(Settings.book(0, 0, -1)), x -> x.burn(0, 1), 6);
        Check.told("the only post", Settings.path(1).andThen(Settings.book(-3)), x -> x.burn(0, 0), 1);
        for (int wrong : Settings.beside(1)) {
            Check.refused("burn(" + wrong + ", 0)", RING, x -> x.burn(wrong, 0), DebtNet.BEYOND);
        }
        for (int wrong : Settings.beside(3)) {
            Check.refused("burn(0, " + wrong + ")", RING, x -> x.burn(0, wrong), DebtNet.BEYOND);
        }
    }

    private static void reduces(String name, Consumer<DebtNet> setting, int post, int others, String due) {
        DebtNet x = Settings.made(setting);
        int book = x.count(1) - 1;
        int posts = x.look(x.count(0) - 1, 1);
        Check.due(name + ": reduce", x.reduce(book, post), others);
        Check.due(name + ": the book", Check.book(x, book, posts), due);
        Check.due(name + ": reduce again", x.reduce(book, post), 0);
        Check.due(name + ": burn", x.burn(book, post), (1 << posts) - 1);
    }

    private static void promise21() {
        Check.part("promise 21");
        reduces("a ring", RING, 0, 2, "3 0 0");
        reduces("a ring at its heap", RING, 1, 0, "0 3 0");
        reduces("a ring with a rest", Settings.ring(3).andThen(Settings.book(-1, 2, 0)), 0, 3, "0 0 1");
        reduces("a path", Settings.path(4).andThen(Settings.book(0, -3, 5, 1)), 3, 3, "0 0 0 3");
        reduces("noughts", Settings.path(3).andThen(Settings.book()), 2, 0, "0 0 0");
        reduces("a banana", Settings.net(2, "4").andThen(Settings.book(-205, 203)), 1, 2, "3 -5");
        reduces("the only post", Settings.path(1).andThen(Settings.book(-9)), 0, 0, "-9");
        reduces("4 posts, each with each", Settings.all(4, 1).andThen(Settings.book(4, -2, 0, 1)), 2, 2, "0 2 0 1");
        reduces("up to 100000", Settings.great(99700, 300), 0, 2, "100000 0");
        reduces("up to 100000 at the other", Settings.great(99700, 300), 1, 2, "0 100000");
        reduces("down to -100000", Settings.great(-100000, 0), 1, 2, "0 -100000");
        for (int wrong : Settings.beside(1)) {
            Check.refused("reduce(" + wrong + ", 0)", APART, x -> x.reduce(wrong, 0), DebtNet.BEYOND);
        }
        for (int wrong : Settings.beside(5)) {
            Check.refused("reduce(0, " + wrong + ")", APART, x -> x.reduce(0, wrong), DebtNet.BEYOND);
        }
        Check.refused("reduce, not whole", APART, x -> x.reduce(0, 0), DebtNet.KIND);
        for (int post = 0; post < 2; post++) {
            int at = post;
            Check.refused("reduce to 100001 at " + at, Settings.great(99999, 2), x -> x.reduce(9, at), DebtNet.FULL);
            Check.refused("reduce to -100001 at " + at, Settings.great(-99999, -2), x -> x.reduce(9, at), DebtNet.FULL);
        }
    }

    private static void promise22() {
        Check.part("promise 22");
        Consumer<DebtNet> two = Settings.ring(3).andThen(Settings.book(0, 3, 0));
        Check.told("one with itself", two, x -> x.like(0, 0), 1);
        Check.told("led by lends", two.andThen(Settings.book(1, 1, 1)), x -> x.like(0, 1), 1);
        Check.told("led by lends, back", two.andThen(Settings.book(1, 1, 1)), x -> x.like(1, 0), 1);
        Check.told("a good on the next post", two.andThen(Settings.book(0, 2, 1)), x -> x.like(0, 1), 0);
        Check.told("another degree", two.andThen(Settings.book(1, 3, 0)), x -> x.like(0, 1), 0);
        Check.told("another degree at post 0", Settings.path(1).andThen(Settings.book(1)).andThen(Settings.book(2)), x -> x.like(0, 1), 0);
        Check.told("a path", Settings.path(3).andThen(Settings.book(2, -1, 0)).andThen(Settings.book(0, 0, 1)), x -> x.like(0, 1), 1);
        Check.told("great numbers", Settings.great(-100000, 300).andThen(x -> x.put(0, 1, 300)), x -> x.like(9, 0), 0);
        for (int wrong : Settings.beside(3)) {
            Check.refused("like(" + wrong + ", 0)", THREE, x -> x.like(wrong, 0), DebtNet.BEYOND);
            Check.refused("like(0, " + wrong + ")", THREE, x -> x.like(0, wrong), DebtNet.BEYOND);
        }
        Check.refused("like of two nets", THREE, x -> x.like(0, 2), DebtNet.NO);
        Check.refused("like of two nets, not whole", APART.andThen(Settings.net(5, "")).andThen(Settings.book()), x -> x.like(0, 1), DebtNet.NO);
        Check.refused("like, not whole", APART, x -> x.like(0, 0), DebtNet.KIND);
    }

    private static void ways(String name, Consumer<DebtNet> setting, int first, int second, String due) {
        DebtNet x = Settings.made(setting);
        int posts = x.look(0, 1);
        String before = Check.book(x, first, posts) + " / " + Check.book(x, second, posts);
        Check.due(name + ": how", x.how(first, second), posts);
        Check.due(name + ": the row", Check.row(x), due);
        Check.due(name + ": the books", Check.book(x, first, posts) + " / " + Check.book(x, second, posts), before);
    }

    private static void promise23() {
        Check.part("promise 23");
        Consumer<DebtNet> two = Settings.ring(3).andThen(Settings.book(0, 3, 0)).andThen(Settings.book(1, 1, 1));
        ways("post 1 lends", two, 0, 1, "0 1 0");
        ways("post 1 borrows", two, 1, 0, "1 0 1");
        ways("one with itself", two, 1, 1, "0 0 0");
        ways("post 0 lends", Settings.path(3).andThen(Settings.book(3, 0, 0)).andThen(Settings.book(0, 1, 2)), 0, 1, "5 2 0");
        ways("a banana", Settings.net(2, "4").andThen(Settings.book(-8, 9)).andThen(Settings.book(0, 1)), 0, 1, "0 2");
        ways("great ways", Settings.great(100000, 0).andThen(x -> x.reduce(9, 1)).andThen(x -> x.sum(8, 6, false)), 9, 9, "0 0");
        ways("the only post", Settings.path(1).andThen(Settings.book(2)).andThen(Settings.book(2)), 0, 1, "0");
        Check.told("not like", THREE.andThen(x -> x.put(1, 0, 2)), x -> x.how(0, 1), DebtNet.NONE);
        Check.told("not like, one degree", THREE.andThen(x -> x.put(1, 0, 2)).andThen(x -> x.put(1, 1, 0)), x -> x.how(0, 1), DebtNet.NONE);
        for (int wrong : Settings.beside(3)) {
            Check.refused("how(" + wrong + ", 0)", THREE, x -> x.how(wrong, 0), DebtNet.BEYOND);
            Check.refused("how(0, " + wrong + ")", THREE, x -> x.how(0, wrong), DebtNet.BEYOND);
        }
        Check.refused("how of two nets", THREE, x -> x.how(0, 2), DebtNet.NO);
        Check.refused("how of two nets, not whole", APART.andThen(Settings.net(5, "")).andThen(Settings.book()), x -> x.how(0, 1), DebtNet.NO);
        Check.refused("how, not whole", APART, x -> x.how(0, 0), DebtNet.KIND);
    }

    private static void promise24() {
        Check.part("promise 24");
        Check.told("a debt that goes", Settings.ring(3).andThen(Settings.book(-1, 2, 0)), x -> x.won(0), 1);
        Check.told("a debt that stays", Settings.ring(3).andThen(Settings.book(1, -1, 0)), x -> x.won(0), 0);
        Check.told("noughts", Settings.ring(3).andThen(Settings.book()), x -> x.won(0), 1);
        Check.told("a good book", RING, x -> x.won(0), 1);
        Check.told("a banana, 2 below 4", Settings.net(2, "4").andThen(Settings.book(3, -1)), x -> x.won(0), 0);
        Check.told("a banana, 3 and 4", Settings.net(2, "4").andThen(Settings.book(4, -1)), x -> x.won(0), 1);
        Check.told("many debts", Settings.path(6).andThen(Settings.book(-300, -300, -300, 300, 300, 300)), x -> x.won(0), 1);
        Check.told("a debt in all", Settings.path(6).andThen(Settings.book(-300, -300, -300, 300, 300, 299)), x -> x.won(0), 0);
        Check.told("a number beyond on the way", Settings.great(99999, 300), x -> x.won(9), 1);
        Check.told("great debts", Settings.great(-99999, -300), x -> x.won(9), 0);
        for (int wrong : Settings.beside(1)) {
            Check.refused("won(" + wrong + ")", APART, x -> x.won(wrong), DebtNet.BEYOND);
        }
        Check.refused("won, not whole", APART, x -> x.won(0), DebtNet.KIND);
    }

    private static void ranks(String name, Consumer<DebtNet> setting, int due) {
        Check.told(name, setting.andThen(x -> x.lay(0, 0)), x -> x.rank(x.count(1) - 1), due);
    }

    private static void promise25() {
        Check.part("promise 25");
        Consumer<DebtNet> full = Settings.all(4, 1);
        ranks("own of 4 posts, each with each", full.andThen(x -> x.own(0)), 2);
        ranks("4 posts, 3 goods, one each", full.andThen(Settings.book(1, 1, 1, 0)), 1);
        ranks("4 posts, 3 goods on one", full.andThen(Settings.book(3, 0, 0, 0)), 1);
        ranks("4 posts, 3 goods on two", full.andThen(Settings.book(2, 1, 0, 0)), 0);
        ranks("4 posts, 5 goods", full.andThen(Settings.book(5, 0, 0, 0)), 2);
        ranks("4 posts, noughts", full.andThen(Settings.book()), 0);
        ranks("4 posts, not like noughts", full.andThen(Settings.book(1, -1, 0, 0)), -1);
        ranks("a banana, one each", Settings.net(2, "4").andThen(Settings.book(1, 1)), 1);
        ranks("a banana, two on one", Settings.net(2, "4").andThen(Settings.book(2, 0)), 0);
        ranks("a ring, like noughts", Settings.ring(4).andThen(Settings.book(-2, 1, 0, 1)), 0);
        ranks("a ring, one good", Settings.ring(4).andThen(Settings.book(0, 1, 0, 0)), 0);
        ranks("a ring, five goods", Settings.ring(4).andThen(Settings.book(5, 1, -1, 0)), 4);
        ranks("a tree", Settings.path(6).andThen(Settings.book(1, 2, -1, 5, 0, 0)), 7);
        ranks("a tree, none", Settings.path(6).andThen(Settings.book(1, -1, 0, 0, 0, 0)), 0);
        ranks("a tree, a debt", Settings.path(6).andThen(Settings.book(1, -2, 0, 0, 0, 0)), -1);
        ranks("a tree, many debts", Settings.path(6).andThen(Settings.book(1, -9, 0, 0, 0, 0)), -1);
        ranks("great goods", Settings.great(100000, 300), 100300);
        ranks("genus 4", Settings.net(3, "411").andThen(x -> x.own(0)), 3);
        for (int wrong : Settings.beside(1)) {
            Check.refused("rank(" + wrong + ")", APART, x -> x.rank(wrong), DebtNet.BEYOND);
        }
        Check.refused("rank, not whole", APART, x -> x.rank(0), DebtNet.KIND);
        Check.refused("rank of genus 5", GENUS_5, x -> x.rank(0), DebtNet.NO);
    }

    private static void whys(String name, Consumer<DebtNet> setting, int goods, String due) {
        DebtNet x = Settings.made(setting);
        int book = x.count(1) - 1;
        int posts = x.look(0, 1);
        String before = Check.book(x, book, posts);
        Check.due(name + ": why", x.why(book), goods);
        Check.due(name + ": the row", Check.row(x), due);
        Check.due(name + ": the book", Check.book(x, book, posts), before);
    }

    private static void promise26() {
        Check.part("promise 26");
        Consumer<DebtNet> full = Settings.all(4, 1);
        whys("own of 4 posts, each with each", full.andThen(x -> x.own(0)), 3, "2 1 0 0");
        whys("a banana, one each", Settings.net(2, "4").andThen(Settings.book(1, 1)), 2, "2 0");
        whys("a banana, two on one", Settings.net(2, "4").andThen(Settings.book(2, 0)), 1, "0 1");
        whys("a ring, one good", Settings.ring(4).andThen(Settings.book(1, 0, 0, 0)), 1, "0 1 0 0");
        whys("not won", full.andThen(Settings.book(1, -1, 0, 0)), 0, "0 0 0 0");
        whys("a tree", Settings.path(3).andThen(Settings.book(0, 0, 2)), 3, "3 0 0");
        whys("the only post, rank 20", Settings.path(1).andThen(Settings.book(20)), 21, "21");
        whys("4 posts, rank 20", full.andThen(Settings.book(23, 0, 0, 0)), 21, "18 2 1 0");
        Consumer<DebtNet> row = x -> x.lay(0, 0);
        for (int wrong : Settings.beside(1)) {
            Check.refused("why(" + wrong + ")", APART.andThen(row), x -> x.why(wrong), DebtNet.BEYOND);
        }
        Check.refused("why, not whole", APART.andThen(row), x -> x.why(0), DebtNet.KIND);
        Check.refused("why of genus 5", GENUS_5.andThen(row), x -> x.why(0), DebtNet.NO);
        Check.refused("why of many goods, genus 5", GENUS_5.andThen(x -> x.put(0, 0, 99)), x -> x.why(0), DebtNet.NO);
        Check.refused("why of rank 21", Settings.path(1).andThen(Settings.book(21)).andThen(row), x -> x.why(0), DebtNet.FULL);
        Check.refused("why of rank 21 of 4 posts", full.andThen(Settings.book(24)).andThen(row), x -> x.why(0), DebtNet.FULL);
        Check.refused("why without a row", Settings.path(1).andThen(Settings.book(21)), x -> x.why(0), DebtNet.FULL);
        Check.refused("why of great goods", Settings.great(100000, 300), x -> x.why(9), DebtNet.FULL);
    }

    private static void promise27() {
        Check.part("promise 27");
        Check.told("a ring of 3", Settings.ring(3).andThen(Settings.book(1, -1, 0)), x -> x.order(0), 3);
        Check.told("a ring of 6, across", Settings.ring(6).andThen(Settings.book(1, 0, 0, -1, 0, 0)), x -> x.order(0), 2);
        Check.told("a ring of 6, two on", Settings.ring(6).andThen(Settings.book(0, 1, 0, -1, 0, 0)), x -> x.order(0), 3);
        Check.told("a ring of 6, beside", Settings.ring(6).andThen(Settings.book(0, 0, 0, 0, 1, -1)), x -> x.order(0), 6);
        Check.told("noughts", Settings.ring(6).andThen(Settings.book()), x -> x.order(0), 1);
        Check.told("a path", Settings.path(3).andThen(Settings.book(7, -5, -2)), x -> x.order(0), 1);
        Check.told("the only post", Settings.path(1).andThen(Settings.book()), x -> x.order(0), 1);
        Check.told("a banana", Settings.net(2, "4").andThen(Settings.book(2, -2)), x -> x.order(0), 2);
        Check.told("the fullest net", Settings.all(6, 4).andThen(Settings.book(0, 0, 1, 0, 0, -1)), x -> x.order(0), 24);
        Check.told("two orders at once", Settings.net(3, "203").andThen(Settings.book(1, -2, 1)), x -> x.order(0), 6);
        for (int wrong : Settings.beside(1)) {
            Check.refusedByNought("order(" + wrong + ")", APART, x -> x.order(wrong), DebtNet.BEYOND);
        }
        Check.refusedByNought("order, not whole", APART, x -> x.order(0), DebtNet.KIND);
        Check.refusedByNought("order of degree 3", RING, x -> x.order(0), DebtNet.NO);
        Check.refusedByNought("order of degree -1", Settings.ring(3).andThen(Settings.book(0, 0, -1)), x -> x.order(0), DebtNet.NO);
    }

    private static void falls(String name, Consumer<DebtNet> setting, int post, int lends, String due) {
        DebtNet x = Settings.made(setting);
        int book = x.count(1) - 1;
        Check.due(name + ": fall", x.fall(book, post), lends);
        Check.due(name + ": the book", Check.book(x, book, x.look(0, 1)), due);
        Check.due(name + ": fall again", x.fall(book, post), 0);
    }

    private static void promise28() {
        Check.part("promise 28");
        falls("one step", Settings.path(3).andThen(Settings.book(0, 0, 1)), 0, 1, "0 1 0");
        falls("from the middle", Settings.path(3).andThen(Settings.book(0, 2, 0)), 0, 2, "1 1 0");
        falls("two from the end", Settings.path(3).andThen(Settings.book(0, 0, 2)), 0, 4, "1 1 0");
        falls("a banana", Settings.net(2, "4").andThen(Settings.book(3, 9)), 0, 2, "11 1");
        falls("the other way", Settings.net(2, "4").andThen(Settings.book(11, 1)), 1, 2, "3 9");
        falls("still", Settings.ring(4).andThen(Settings.book(9, 1, 1, 1)), 0, 0, "9 1 1 1");
        falls("a debt at the post", Settings.path(2).andThen(Settings.book(-5, 3)), 0, 3, "-2 0");
        falls("the only post", Settings.path(1).andThen(Settings.book(5)), 0, 0, "5");
        falls("the only post in debt", Settings.path(1).andThen(Settings.book(-5)), 0, 0, "-5");
        falls("up to 100000", Settings.great(99998, 2), 0, 2, "100000 0");
        falls("100000 lends", Settings.great(100000, 0), 1, 100000, "0 100000");
        for (int wrong : Settings.beside(1)) {
            Check.refused("fall(" + wrong + ", 0)", APART, x -> x.fall(wrong, 0), DebtNet.BEYOND);
        }
        for (int wrong : Settings.beside(5)) {
            Check.refused("fall(0, " + wrong + ")", APART, x -> x.fall(0, wrong), DebtNet.BEYOND);
        }
        Check.refused("fall, not whole", APART, x -> x.fall(0, 0), DebtNet.KIND);
        Check.refused("fall, not whole, of debts", APART.andThen(x -> x.put(0, 3, -1)), x -> x.fall(0, 0), DebtNet.KIND);
        Check.refused("fall beside a debt", Settings.ring(3).andThen(Settings.book(9, 9, -1)), x -> x.fall(0, 0), DebtNet.NO);
        Check.refused("fall beside a debt at 0", Settings.ring(3).andThen(Settings.book(-1, 9, 9)), x -> x.fall(0, 2), DebtNet.NO);
        Check.refused("fall to 100001", Settings.great(99999, 2), x -> x.fall(9, 0), DebtNet.FULL);
        Check.refused("fall to 100001 by 100000 lends", Settings.great(100000, 1), x -> x.fall(9, 1), DebtNet.FULL);
        spent();
    }

    /** From the end of a path of 6 each good takes 15 lends to post 0; 40 less, as 4 stay at the posts between. */
    private static void spent() {
        Consumer<DebtNet> heap = Settings.path(6).andThen(Settings.book(0, 0, 0, 0, 0, 300)).andThen(x -> {
            for (int book = 0; book < 6; book++) {
                x.sum(book, book, false);
            }
        });
        Check.refused("fall of 19200", heap, x -> x.fall(6, 0), DebtNet.SPENT);
        Check.refused("fall of 9600", heap, x -> x.fall(5, 0), DebtNet.SPENT);
        DebtNet x = Settings.made(heap);
        Check.due("fall of 4800", x.fall(4, 0), 4800 * 15 - 40);
        Check.due("the book", Check.book(x, 4, 6), "4796 1 1 1 1 0");
        Consumer<DebtNet> both = Settings.path(3).andThen(Settings.book(300, 0, 300)).andThen(y -> {
            for (int book = 0; book < 8; book++) {
                y.sum(book, book, false);
            }
        });
        Check.refused("fall of so many that the post is full too", both, y -> y.fall(8, 0), DebtNet.SPENT);
        Check.refused("fall beside a debt of so many", both.andThen(y -> y.put(8, 1, -1)), y -> y.fall(8, 0), DebtNet.NO);
    }

    private static void promise29() {
        Check.part("promise 29");
        Check.told("the same", THREE.andThen(x -> x.put(0, 0, 1)).andThen(x -> x.lend(0, 2, 0)), x -> x.same(0, 0), 1);
        Check.told("like, not the same", THREE, x -> x.same(0, 1), 0);
        Check.told("two of the same numbers", RING.andThen(Settings.book(0, 3, 0)), x -> x.same(0, 1), 1);
        Check.told("another at the last post", RING.andThen(Settings.book(0, 3, 1)), x -> x.same(1, 0), 0);
        Check.told("another at the first post", RING.andThen(Settings.book(1, 3, 0)), x -> x.same(0, 1), 0);
        Check.told("a net that is not whole", APART, x -> x.same(0, 0), 1);
        for (int wrong : Settings.beside(3)) {
            Check.refused("same(" + wrong + ", 0)", THREE, x -> x.same(wrong, 0), DebtNet.BEYOND);
            Check.refused("same(0, " + wrong + ")", THREE, x -> x.same(0, wrong), DebtNet.BEYOND);
        }
        Check.refused("same of two nets", THREE, x -> x.same(1, 2), DebtNet.NO);
    }

    private static void promise30() {
        Check.part("promise 30");
        Check.told("count(0)", THREE, x -> x.count(0), 2);
        Check.told("count(1)", THREE, x -> x.count(1), 3);
        Check.told("count(1) after a drop", THREE.andThen(DebtNet::drop), x -> x.count(1), 2);
        for (int wrong : Settings.beside(2)) {
            Check.refused("count(" + wrong + ")", THREE, x -> x.count(wrong), DebtNet.NO);
        }
    }
}

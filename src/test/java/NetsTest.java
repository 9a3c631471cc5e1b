import java.util.function.Consumer;

/** Promises 1 to 9: ordinary calls, the edges that the document names, each refusal, wrong inputs. */
public final class NetsTest {
    private static final int MIN = Integer.MIN_VALUE;
    private static final int MAX = Integer.MAX_VALUE;
    private static final Consumer<DebtNet> TWO_RINGS = Settings.net(6, "111" + "000" + "0001" + "00011");

    public static void main(String[] args) {
        promise1();
        promise2();
        promise3();
        promise4();
        promise5();
        promise6();
        promise7();
        promise8();
        promise9();
        Check.end("NetsTest");
    }

    private static void promise1() {
        Check.part("promise 1");
        Check.told("count(0)", Settings.NOTHING, x -> x.count(0), 0);
        Check.told("count(1)", Settings.NOTHING, x -> x.count(1), 0);
        Check.told("tear()", Settings.NOTHING, DebtNet::tear, 0);
        for (int code = DebtNet.SPENT; code <= DebtNet.MISSING; code++) {
            Check.due("status(" + code + ")", new DebtNet().status(code), 0);
        }
        Settings.made(Settings.ring(3));
        Check.told("count(0) beside another object", Settings.NOTHING, x -> x.count(0), 0);
    }

    private static void promise2() {
        Check.part("promise 2");
        DebtNet x = new DebtNet();
        Check.due("net(1)", x.net(1), 0);
        Check.due("net(6)", x.net(6), 1);
        Check.due("net(3)", x.net(3), 2);
        Check.due("net(2)", x.net(2), 3);
        Check.due("count(0)", x.count(0), 4);
        Check.due("posts of net 0", x.look(0, 1), 1);
        Check.due("posts of net 1", x.look(1, 1), 6);
        Check.due("roads of net 1", x.look(1, 2), 0);
        Consumer<DebtNet> four = y -> {
            y.net(1);
            y.net(2);
            y.net(3);
            y.net(4);
        };
        for (int n : new int[] {0, 7, -1, MIN, MAX}) {
            Check.refused("net(" + n + ")", Settings.path(2), y -> y.net(n), DebtNet.NO);
            Check.refused("net(" + n + "), a fifth", four, y -> y.net(n), DebtNet.NO);
        }
        Check.refused("net(1), a fifth", four, y -> y.net(1), DebtNet.FULL);
        Check.refused("net(6), a fifth", four, y -> y.net(6), DebtNet.FULL);
    }

    private static void promise3() {
        Check.part("promise 3");
        DebtNet x = Settings.made(Settings.net(3, "").andThen(Settings.net(3, "")));
        Check.due("road(0, 0, 1, 4)", x.road(0, 0, 1, 4), 0);
        Check.due("road(0, 1, 0, 2)", x.road(0, 1, 0, 2), 4);
        Check.due("road(0, 0, 1, 0)", x.road(0, 0, 1, 0), 2);
        Check.due("road(0, 2, 1, 3)", x.road(0, 2, 1, 3), 0);
        Check.due("roads(0, 1, 2)", x.roads(0, 1, 2), 3);
        Check.due("roads(0, 2, 1)", x.roads(0, 2, 1), 3);
        Check.due("roads(0, 0, 1)", x.roads(0, 0, 1), 0);
        Check.due("roads(1, 1, 2)", x.roads(1, 1, 2), 0);
        x.book(1);
        Check.due("road of the net without books", x.road(0, 1, 2, 1), 3);
        Check.due("road of the net with one", x.road(1, 1, 2, 1), DebtNet.NO);
        x.drop();
        Check.due("road of the net whose book went", x.road(1, 1, 2, 1), 0);

        Consumer<DebtNet> ring = Settings.ring(3);
        Consumer<DebtNet> booked = ring.andThen(Settings.book(1));
        for (int wrong : Settings.beside(1)) {
            Check.refused("road(" + wrong + ", 0, 1, 1)", ring, y -> y.road(wrong, 0, 1, 1), DebtNet.BEYOND);
            Check.refused("road(" + wrong + ", 0, 0, 9)", booked, y -> y.road(wrong, 0, 0, 9), DebtNet.BEYOND);
        }
        for (int wrong : Settings.beside(3)) {
            Check.refused("road(0, " + wrong + ", 1, 1)", ring, y -> y.road(0, wrong, 1, 1), DebtNet.BEYOND);
            Check.refused("road(0, 1, " + wrong + ", 1)", ring, y -> y.road(0, 1, wrong, 1), DebtNet.BEYOND);
            Check.refused("road(0, " + wrong + ", .., 9)", booked, y -> y.road(0, wrong, wrong, 9), DebtNet.BEYOND);
        }
        for (int wrong : Settings.beside(5)) {
            Check.refused("road(0, 0, 1, " + wrong + ")", ring, y -> y.road(0, 0, 1, wrong), DebtNet.NO);
        }
        Check.refused("road(0, 2, 2, 1)", ring, y -> y.road(0, 2, 2, 1), DebtNet.NO);
        Check.refused("road(0, 0, 0, 0)", ring, y -> y.road(0, 0, 0, 0), DebtNet.NO);
        Check.refused("road, the net has books", booked, y -> y.road(0, 0, 1, 2), DebtNet.NO);
        Check.refused("road, the net has a book of its own", ring.andThen(y -> y.own(0)), y -> y.road(0, 0, 1, 1), DebtNet.NO);
    }

    private static void promise4() {
        Check.part("promise 4");
        looks("one post", Settings.path(1), 0, 1, 0, 0, 1);
        looks("two posts apart", Settings.net(2, ""), 3, 2, 0, -1, 0);
        looks("one road", Settings.path(2), 0, 2, 1, 0, 1);
        looks("two roads", Settings.net(2, "2"), 1, 2, 2, 1, 1);
        looks("three roads", Settings.net(2, "3"), 2, 2, 3, 2, 1);
        looks("four roads", Settings.net(2, "4"), 2, 2, 4, 3, 1);
        looks("a path", Settings.path(4), 0, 4, 3, 0, 1);
        looks("a ring and a post apart", Settings.net(4, "001011"), 3, 4, 3, 0, 0);
        looks("a star round post 3", Settings.net(4, "000111"), 0, 4, 3, 0, 1);
        looks("a path and a post apart", Settings.net(5, "0000100011"), 3, 5, 3, -1, 0);
        looks("a path 0-4-1-3-2", Settings.net(5, "0000111100"), 0, 5, 4, 0, 1);
        looks("a ring", Settings.ring(3), 1, 3, 3, 1, 1);
        looks("the greatest ring", Settings.ring(6), 1, 6, 6, 1, 1);
        looks("two rings apart", TWO_RINGS, 3, 6, 6, 1, 0);
        looks("a ring with a tail", Settings.net(4, "1111"), 3, 4, 4, 1, 1);
        looks("a ring with a road more", Settings.net(3, "211"), 3, 3, 4, 2, 1);
        looks("a part apart", Settings.net(4, "202"), 3, 4, 4, 1, 0);
        looks("no road", Settings.net(6, ""), 3, 6, 0, -5, 0);
        looks("all roads", Settings.all(6, 4), 3, 6, 60, 55, 1);
        for (int wrong : Settings.beside(1)) {
            Check.refused("look(" + wrong + ", 0)", Settings.path(3), y -> y.look(wrong, 0), DebtNet.BEYOND);
            Check.refused("look(" + wrong + ", 5)", Settings.path(3), y -> y.look(wrong, 5), DebtNet.BEYOND);
        }
        for (int wrong : Settings.beside(5)) {
            Check.refused("look(0, " + wrong + ")", Settings.path(3), y -> y.look(0, wrong), DebtNet.NO);
        }
    }

    private static void looks(String name, Consumer<DebtNet> setting, int... due) {
        for (int i = 0; i < due.length; i++) {
            int what = i;
            Check.told(name + ": look(0, " + what + ")", setting, x -> x.look(0, what), due[what]);
        }
    }

    private static void promise5() {
        Check.part("promise 5");
        Consumer<DebtNet> some = Settings.net(3, "240");
        Check.told("roads(0, 0, NONE)", some, x -> x.roads(0, 0, DebtNet.NONE), 6);
        Check.told("roads(0, 1, NONE)", some, x -> x.roads(0, 1, DebtNet.NONE), 2);
        Check.told("roads(0, 0, 2)", some, x -> x.roads(0, 0, 2), 4);
        Check.told("roads(0, 2, 0)", some, x -> x.roads(0, 2, 0), 4);
        Check.told("roads(0, 1, 2)", some, x -> x.roads(0, 1, 2), 0);
        Check.told("roads(0, 1, 1)", some, x -> x.roads(0, 1, 1), 0);
        Check.told("roads of the only post", Settings.path(1), x -> x.roads(0, 0, DebtNet.NONE), 0);
        for (int wrong : Settings.beside(1)) {
            Check.refused("roads(" + wrong + ", 0, 0)", some, x -> x.roads(wrong, 0, 0), DebtNet.BEYOND);
        }
        for (int wrong : Settings.beside(3)) {
            Check.refused("roads(0, " + wrong + ", 0)", some, x -> x.roads(0, wrong, 0), DebtNet.BEYOND);
            Check.refused("roads(0, " + wrong + ", NONE)", some, x -> x.roads(0, wrong, DebtNet.NONE), DebtNet.BEYOND);
        }
        for (int wrong : new int[] {-2, 3, 6, MIN, MAX}) {
            Check.refused("roads(0, 0, " + wrong + ")", some, x -> x.roads(0, 0, wrong), DebtNet.BEYOND);
        }
    }

    private static void promise6() {
        Check.part("promise 6");
        Check.told("trees of one post", Settings.path(1), x -> x.trees(0), 1);
        Check.told("trees of a tree", Settings.path(6), x -> x.trees(0), 1);
        Check.told("trees of a ring", Settings.ring(6), x -> x.trees(0), 6);
        Check.told("trees of a banana", Settings.net(2, "3"), x -> x.trees(0), 3);
        Check.told("trees of a ring 0-2-1-3", Settings.net(4, "011110"), x -> x.trees(0), 4);
        Check.told("trees of 4 posts, each with each", Settings.all(4, 1), x -> x.trees(0), 16);
        Check.told("trees of 6 posts, each with each", Settings.all(6, 1), x -> x.trees(0), 1296);
        Check.told("trees of the fullest net", Settings.all(6, 4), x -> x.trees(0), 1327104);
        for (int wrong : Settings.beside(1)) {
            Check.refusedByNought("trees(" + wrong + ")", Settings.ring(3), x -> x.trees(wrong), DebtNet.BEYOND);
        }
        Check.refusedByNought("trees of two posts apart", Settings.net(2, ""), x -> x.trees(0), DebtNet.KIND);
        Check.refusedByNought("trees of two rings", TWO_RINGS, x -> x.trees(0), DebtNet.KIND);
    }

    private static void promise7() {
        Check.part("promise 7");
        factors("a banana", Settings.net(2, "3"), 3);
        factors("a path", Settings.path(6), 1, 1, 1, 1, 1);
        factors("a ring", Settings.ring(6), 1, 1, 1, 1, 6);
        factors("two rings with one post", Settings.net(5, "1111001001"), 1, 1, 3, 3);
        factors("3 roads and 2 in a row", Settings.net(3, "302"), 1, 6);
        factors("4 roads and 2 in a row", Settings.net(3, "402"), 2, 4);
        factors("a ring of double roads", Settings.net(3, "222"), 2, 6);
        factors("4 posts, each with each", Settings.all(4, 1), 1, 4, 4);
        factors("6 posts, each with each", Settings.all(6, 1), 1, 6, 6, 6, 6);
        factors("the fullest net", Settings.all(6, 4), 4, 24, 24, 24, 24);
        Consumer<DebtNet> apart = Settings.net(3, "4");
        for (int wrong : Settings.beside(1)) {
            Check.refusedByNought("factor(" + wrong + ", 0)", apart, x -> x.factor(wrong, 0), DebtNet.BEYOND);
        }
        for (int wrong : Settings.beside(2)) {
            Check.refusedByNought("factor(0, " + wrong + ")", Settings.ring(3), x -> x.factor(0, wrong), DebtNet.BEYOND);
            Check.refusedByNought("factor(0, " + wrong + "), not whole", apart, x -> x.factor(0, wrong), DebtNet.KIND);
        }
        Check.refusedByNought("factor(0, 0), not whole", apart, x -> x.factor(0, 0), DebtNet.KIND);
        Check.refusedByNought("factor(0, 0) of one post", Settings.path(1), x -> x.factor(0, 0), DebtNet.BEYOND);
    }

    private static void factors(String name, Consumer<DebtNet> setting, long... due) {
        for (int i = 0; i < due.length; i++) {
            int k = i;
            Check.told(name + ": factor(0, " + k + ")", setting, x -> x.factor(0, k), due[k]);
        }
        Check.refusedByNought(name + ": one more", setting, x -> x.factor(0, due.length), DebtNet.BEYOND);
    }

    private static void promise8() {
        Check.part("promise 8");
        resists("a road", Settings.path(2), 0, 1, 1, 1);
        resists("a banana", Settings.net(2, "4"), 0, 1, 1, 4);
        resists("the ends of a path", Settings.path(6), 0, 5, 5, 1);
        resists("the middle of a path", Settings.path(6), 3, 2, 1, 1);
        resists("a ring, across", Settings.ring(6), 1, 4, 3, 2);
        resists("a ring, beside", Settings.ring(6), 5, 0, 5, 6);
        resists("4 posts, each with each", Settings.all(4, 1), 2, 3, 1, 2);
        resists("the fullest net", Settings.all(6, 4), 0, 5, 1, 12);
        resists("2 and 3 roads in a row", Settings.net(3, "203"), 0, 2, 5, 6);
        resists("one with itself", Settings.ring(4), 2, 2, 0, 1);
        resists("the only post", Settings.path(1), 0, 0, 0, 1);
        Consumer<DebtNet> apart = Settings.net(3, "1");
        for (boolean lower : new boolean[] {false, true}) {
            for (int wrong : Settings.beside(1)) {
                Check.refusedByNought("resist(" + wrong + ", 0, 1)", apart, x -> x.resist(wrong, 0, 1, lower), DebtNet.BEYOND);
            }
            for (int wrong : Settings.beside(3)) {
                Check.refusedByNought("resist(0, " + wrong + ", 1)", apart, x -> x.resist(0, wrong, 1, lower), DebtNet.BEYOND);
                Check.refusedByNought("resist(0, 1, " + wrong + ")", Settings.ring(3), x -> x.resist(0, 1, wrong, lower), DebtNet.BEYOND);
                Check.refusedByNought("resist of none", apart, x -> x.resist(0, wrong, wrong, lower), DebtNet.BEYOND);
            }
            Check.refusedByNought("resist, not whole", apart, x -> x.resist(0, 0, 1, lower), DebtNet.KIND);
            Check.refusedByNought("resist with itself, not whole", apart, x -> x.resist(0, 1, 1, lower), DebtNet.KIND);
        }
    }

    private static void resists(String name, Consumer<DebtNet> setting, int a, int b, long upper, long lower) {
        Check.told(name + ": upper", setting, x -> x.resist(0, a, b, false), upper);
        Check.told(name + ": upper, back", setting, x -> x.resist(0, b, a, false), upper);
        Check.told(name + ": lower", setting, x -> x.resist(0, a, b, true), lower);
    }

    private static void promise9() {
        Check.part("promise 9");
        Check.told("gonality of one post", Settings.path(1), x -> x.gonality(0), 1);
        Check.told("gonality of a road", Settings.path(2), x -> x.gonality(0), 1);
        Check.told("gonality of a tree", Settings.net(6, "110100100010000"), x -> x.gonality(0), 1);
        Check.told("gonality of a ring", Settings.ring(6), x -> x.gonality(0), 2);
        Check.told("gonality of a banana", Settings.net(2, "4"), x -> x.gonality(0), 2);
        Check.told("gonality of two double roads", Settings.net(3, "202"), x -> x.gonality(0), 2);
        Check.told("gonality of genus 4", Settings.net(3, "411"), x -> x.gonality(0), 2);
        Check.told("gonality of 4 posts, each with each", Settings.all(4, 1), x -> x.gonality(0), 3);
        Check.told("gonality of 3 by 3 posts", Settings.net(6, "000111111011100"), x -> x.gonality(0), 3);
        Check.told("gonality of a prism", Settings.net(6, "111100010100111"), x -> x.gonality(0), 3);
        Consumer<DebtNet> apart = Settings.net(5, "444444");
        for (int wrong : Settings.beside(1)) {
            Check.refused("gonality(" + wrong + ")", apart, x -> x.gonality(wrong), DebtNet.BEYOND);
        }
        Check.refused("gonality of posts apart", Settings.net(2, ""), x -> x.gonality(0), DebtNet.KIND);
        Check.refused("gonality of a net of many roads, not whole", apart, x -> x.gonality(0), DebtNet.KIND);
        Check.refused("gonality of genus 5", Settings.net(3, "421"), x -> x.gonality(0), DebtNet.NO);
        Check.refused("gonality of the fullest net", Settings.all(6, 4), x -> x.gonality(0), DebtNet.NO);
    }
}

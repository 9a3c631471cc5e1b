/** Books of numbers up to 100000 on nets of all sorts, and falls about 100000 lends: the same as SlowNet's. */
public final class GreatNumbersTest {
    private static final int NETS = 60;

    private final DebtNet fast = new DebtNet();
    private final SlowNet slow = new SlowNet();
    private long seed;

    private GreatNumbersTest(long seed) {
        this.seed = seed * 7919 + 17;
    }

    public static void main(String[] args) {
        for (int net = 0; net < NETS; net++) {
            Check.part("great numbers " + net);
            new GreatNumbersTest(net).run(net);
        }
        Check.part("falls about 100000 lends");
        for (int middle = 0; middle < 3; middle++) {
            falls(middle);
        }
        Check.end("GreatNumbersTest");
    }

    private int below(int bound) {
        seed = seed * 6364136223846793005L + 1442695040888963407L;
        return (int) ((seed >>> 33) % bound);
    }

    private void road(int a, int b, int k) {
        Check.due("road", fast.road(0, a, b, k), slow.road(0, a, b, k));
    }

    private void makeNet(int net) {
        int n = 2 + below(5);
        Check.due("net", fast.net(n), slow.net(n));
        for (int post = 1; post < n; post++) {
            road(post, below(post), net % 3 == 0 ? 1 : 1 + below(4));
        }
        for (int more = below(net % 2 == 0 ? 3 : 12); more > 0; more--) {
            road(below(n), below(n), below(5));
        }
    }

    /** Nine books, each but the first twice the one before. */
    private void makeBooks(int greatest, int least) {
        int n = fast.look(0, 1);
        Check.due("book", fast.book(0), slow.book(0));
        for (int post = 0; post < n; post++) {
            int v = least + below(greatest - least + 1);
            Check.due("put", fast.put(0, post, v), slow.put(0, post, v));
        }
        for (int book = 0; book < 8; book++) {
            Check.due("sum", fast.sum(book, book, false), slow.sum(book, book, false));
        }
    }

    private void run(int net) {
        makeNet(net);
        int n = fast.look(0, 1);
        makeBooks(300, net % 4 == 0 ? 0 : -300);
        for (int book = 5; book < 9; book++) {
            Check.due("won", fast.won(book), slow.won(book));
            Check.due("rank", fast.rank(book), slow.rank(book));
            Check.due("why", fast.why(book), slow.why(book));
            Check.due("order", fast.order(book), slow.order(book));
            Check.due("burn", fast.burn(book, 0), slow.burn(book, 0));
            int set = below(1 << n);
            Check.due("lendAll", fast.lendAll(book, set), slow.lendAll(book, set));
            Check.due("how", fast.how(book, book - 1), slow.how(book, book - 1));
            int post = below(n);
            Check.due("fall", fast.fall(book, post), slow.fall(book, post));
            post = below(n);
            Check.due("reduce", fast.reduce(book, post), slow.reduce(book, post));
            sameBooks(book, n);
        }
        Check.due("sum", fast.sum(8, 7, true), slow.sum(8, 7, true));
        // From reduced to not: the way back is long.
        for (int other = 0; other < 10; other++) {
            Check.due("like", fast.like(9, other), slow.like(9, other));
            Check.due("how", fast.how(other, 9), slow.how(other, 9));
            for (int i = 0; i < n; i++) {
                Check.due("row", fast.row(i), slow.row(i));
            }
        }
        for (int by = -9; by < -1; by++) {
            Check.due("status(" + by + ")", fast.status(by), slow.status(by));
        }
    }

    private void sameBooks(int book, int n) {
        for (int post = 0; post < n; post++) {
            Check.due("at", fast.at(book, post), slow.at(book, post));
        }
    }

    /**
     * On a path of 3 each good at the last post takes 3 lends, at the middle one 2: so the falls of
     * some 33333 goods meet both sides of the bound. Each has an object of its own.
     */
    private static void falls(int middle) {
        int through = 0;
        for (int more = 20; more < 90; more++) {
            GreatNumbersTest one = new GreatNumbersTest(more);
            int lends = one.fallOf(more, middle);
            through += lends == DebtNet.SPENT ? 0 : 1;
            Check.due("lends or SPENT", lends == DebtNet.SPENT || lends > 99000 && lends <= 100000 ? 1 : 0, 1);
        }
        Check.due("some were spent, some were not", through > 5 && through < 65 ? 1 : 0, 1);
    }

    private int fallOf(int more, int middle) {
        Check.due("net", fast.net(3), slow.net(3));
        road(0, 1, 1);
        road(1, 2, 1);
        Check.due("book", fast.book(0), slow.book(0));
        Check.due("put", fast.put(0, 2, 130), slow.put(0, 2, 130));
        for (int book = 0; book < 8; book++) {
            Check.due("sum", fast.sum(book, book, false), slow.sum(book, book, false));
        }
        Check.due("lend", fast.lend(8, 2, -more), slow.lend(8, 2, -more));
        Check.due("put", fast.put(8, 1, middle), slow.put(8, 1, middle));
        int lends = fast.fall(8, 0);
        Check.due("fall", lends, slow.fall(8, 0));
        sameBooks(8, 3);
        return lends;
    }
}

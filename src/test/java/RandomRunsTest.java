import java.util.ArrayList;
import java.util.List;

/** Runs of calls, drawn from fixed seeds, on DebtNet and on SlowNet: each answer must be the same. */
public final class RandomRunsTest {
    private static final int RUNS = 2000;
    private static final int CALLS = 512;
    private static final int[] WRONG = {
        Integer.MIN_VALUE, Integer.MIN_VALUE + 1, Integer.MAX_VALUE, Integer.MAX_VALUE - 1, -1, -2, -3, 4, 5, 6, 7, 10, 64
    };

    private final DebtNet fast = new DebtNet();
    private final SlowNet slow = new SlowNet();
    private final List<String> calls = new ArrayList<>();
    private final int dense;
    private final boolean great;
    private final boolean weak;
    private long seed;
    // Drawn anew for each call: posts mostly lie in this net, or in this book's.
    private int posts = 6;

    private RandomRunsTest(int run) {
        seed = run * 2654435761L + 12345;
        dense = run % 4;
        great = run % 5 == 0;
        weak = run % 7 == 0;
    }

    public static void main(String[] args) {
        for (int run = 0; run < RUNS; run++) {
            Check.part("random run " + run);
            RandomRunsTest one = new RandomRunsTest(run);
            if (!one.passes()) {
                break;
            }
        }
        Check.end("RandomRunsTest");
    }

    private int below(int bound) {
        seed = seed * 6364136223846793005L + 1442695040888963407L;
        return (int) ((seed >>> 33) % bound);
    }

    private int mostly(int value) {
        return below(60) == 0 ? WRONG[below(WRONG.length)] : value;
    }

    private int net() {
        int net = below(Math.max(1, slow.count(0)));
        posts = slow.count(0) == 0 ? 6 : slow.look(net, 1);
        return mostly(net);
    }

    private int book() {
        int book = below(Math.max(1, slow.count(1)));
        posts = slow.count(1) == 0 ? 6 : slow.postsOfBook(book);
        return mostly(book);
    }

    private int post() {
        return mostly(below(posts));
    }

    private boolean passes() {
        for (int nets = 1 + below(4); nets > 0; nets--) {
            int n = below(12) == 0 ? below(9) - 1 : 1 + below(6);
            if (!same(tell("net", fast.net(n), slow.net(n), n)) || !layRoads(slow.count(0) - 1)) {
                return false;
            }
        }
        for (int call = calls.size(); call < CALLS; call++) {
            int kind = below(100);
            if (!same(kind < 45 ? booking(kind) : reckoning(kind))) {
                return false;
            }
        }
        return true;
    }

    private boolean same(long[] answers) {
        Check.due(calls.get(calls.size() - 1), answers[0], answers[1]);
        if (answers[0] != answers[1]) {
            calls.forEach(one -> System.out.println("    " + one));
        }
        return answers[0] == answers[1];
    }

    private long[] tell(String name, long fastAnswer, long slowAnswer, int... with) {
        calls.add(name + java.util.Arrays.toString(with));
        return new long[] {fastAnswer, slowAnswer};
    }

    /** A tree first, mostly, and then more roads: a few, so that ranks are told, or many. */
    private boolean layRoads(int net) {
        int n = net < 0 ? 0 : slow.look(net, 1);
        for (int post = 1; post < n; post++) {
            if (below(weak ? 3 : 30) > 0 && !layRoad(net, post, below(post), 1 + (dense > 1 ? below(4) : 0))) {
                return false;
            }
        }
        for (int more = below(dense == 3 ? 15 : 5); more > 0 && n > 0; more--) {
            if (!layRoad(net, mostly(below(n)), mostly(below(n)), mostly(below(dense == 0 ? 2 : dense == 1 ? 3 : 5)))) {
                return false;
            }
        }
        return true;
    }

    private boolean layRoad(int net, int a, int b, int k) {
        return same(tell("road", fast.road(net, a, b, k), slow.road(net, a, b, k), net, a, b, k));
    }

    private int value(int book, int post) {
        int draw = below(20);
        if (draw < 5 && slow.hasPlace(book, post)) {
            // A degree near 0, where orders and ranks have most to tell.
            return slow.peek(book, post) - slow.peekDegree(book) + (draw < 3 ? 0 : below(9) - 1);
        }
        return draw == 19 ? below(700) - 350 : below(9) - 3;
    }

    private long[] booking(int kind) {
        int net = net();
        int other = book();
        int book = book();
        int post = post();
        if (kind < 6 && slow.count(1) < 8) {
            return tell("book", fast.book(net), slow.book(net), net);
        } else if (kind < 24) {
            int v = mostly(value(book, post));
            return tell("put", fast.put(book, post, v), slow.put(book, post, v), book, post, v);
        } else if (kind < 29) {
            int times = mostly(great && below(2) == 0 ? below(220) - 110 : below(5) - 2);
            return tell("lend", fast.lend(book, post, times), slow.lend(book, post, times), book, post, times);
        } else if (kind < 33) {
            int set = mostly(below(below(20) == 0 ? 64 : 1 << posts));
            return tell("lendAll", fast.lendAll(book, set), slow.lendAll(book, set), book, set);
        } else if (kind < 35) {
            return tell("own", fast.own(net), slow.own(net), net);
        } else if (kind < 38) {
            boolean less = below(2) == 0;
            return tell("sum", fast.sum(book, other, less), slow.sum(book, other, less), book, other, less ? 1 : 0);
        } else if (kind < 39) {
            return tell("drop", fast.drop(), slow.drop());
        } else if (kind == 41 && great && slow.count(1) == 10) {
            return tell("drop", fast.drop(), slow.drop());
        } else if (kind > 40 && kind < 44 && great) {
            return tell("sum", fast.sum(book, book, false), slow.sum(book, book, false), book, book, 0);
        } else if (kind == 39) {
            net = net();
            int k = mostly(below(5));
            int b = post();
            return tell("road", fast.road(net, post, b, k), slow.road(net, post, b, k), net, post, b, k);
        } else if (kind == 40) {
            int n = mostly(below(8));
            return tell("net", fast.net(n), slow.net(n), n);
        }
        return tell("at", fast.at(book, post), slow.at(book, post), book, post);
    }

    private long[] reckoning(int kind) {
        int net = net();
        int netPost = post();
        int b = post();
        int k = mostly(below(5));
        int other = book();
        int book = book();
        int post = post();
        switch (kind) {
            case 45: case 46:
                int what = mostly(below(5));
                return tell("look", fast.look(net, what), slow.look(net, what), net, what);
            case 47: case 48:
                int to = below(3) == 0 ? -1 : b;
                return tell("roads", fast.roads(net, netPost, to), slow.roads(net, netPost, to), net, netPost, to);
            case 49:
                return tell("trees", fast.trees(net), slow.trees(net), net);
            case 50: case 51: case 52:
                return tell("factor", fast.factor(net, k), slow.factor(net, k), net, k);
            case 53: case 54:
                boolean lower = below(2) == 0;
                return tell("resist", fast.resist(net, netPost, b, lower), slow.resist(net, netPost, b, lower), net,
                        netPost, b, lower ? 1 : 0);
            case 55: case 56:
                return tell("gonality", fast.gonality(net), slow.gonality(net), net);
            case 57:
                return tell("degree", fast.degree(book), slow.degree(book), book);
            case 58:
                return tell("good", fast.good(book), slow.good(book), book);
            case 59: case 60: case 61:
                return tell("burn", fast.burn(book, post), slow.burn(book, post), book, post);
            case 62: case 63: case 64:
                return tell("reduce", fast.reduce(book, post), slow.reduce(book, post), book, post);
            case 65: case 66:
                return tell("like", fast.like(book, other), slow.like(book, other), book, other);
            case 67: case 68: case 69:
                return tell("how", fast.how(book, other), slow.how(book, other), book, other);
            case 70: case 71:
                return tell("won", fast.won(book), slow.won(book), book);
            case 72: case 73: case 74:
                return tell("rank", fast.rank(book), slow.rank(book), book);
            case 75: case 76: case 77:
                return tell("why", fast.why(book), slow.why(book), book);
            case 78: case 79: case 80:
                return tell("order", fast.order(book), slow.order(book), book);
            case 81: case 82: case 83:
                return tell("fall", fast.fall(book, post), slow.fall(book, post), book, post);
            case 84:
                return tell("same", fast.same(book, other), slow.same(book, other), book, other);
            default:
                return rows(kind, net, netPost);
        }
    }

    private long[] rows(int kind, int net, int post) {
        if (kind == 85) {
            int what = mostly(below(3));
            return tell("count", fast.count(what), slow.count(what), what);
        } else if (kind == 86) {
            return tell("lay", fast.lay(net, post), slow.lay(net, post), net, post);
        } else if (kind == 87 && below(3) == 0) {
            return tell("tear", fast.tear(), slow.tear());
        } else if (kind < 94) {
            int i = mostly(below(6));
            return tell("row", fast.row(i), slow.row(i), i);
        } else if (kind < 97) {
            int i = mostly(below(4));
            int j = mostly(below(4));
            int n = mostly(below(4));
            return tell("copy", fast.copy(i, j, n), slow.copy(i, j, n), i, j, n);
        }
        int by = mostly(-9 + below(9));
        return tell("status", fast.status(by), slow.status(by), by);
    }
}

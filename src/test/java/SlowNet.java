import java.util.ArrayList;
import java.util.Arrays;
import java.util.HashMap;
import java.util.List;
import java.util.Map;

/** The document once more, by its definitions and without care for speed: what DebtNet is compared with. */
final class SlowNet {
    private static final int BEYOND = -3;
    private static final int KIND = -5;
    private static final int NO = -7;
    private static final int FULL = -8;

    private final List<int[][]> nets = new ArrayList<>();
    private final List<Integer> bookNets = new ArrayList<>();
    private final List<int[]> books = new ArrayList<>();
    private int[] theRow = null;
    private final Map<Integer, Integer> refusals = new HashMap<>();

    // ---- nets

    int net(int n) {
        if (n < 1 || n > 6) {
            return refuse(NO);
        }
        if (nets.size() == 4) {
            return refuse(FULL);
        }
        nets.add(new int[n][n]);
        return nets.size() - 1;
    }

    int road(int net, int a, int b, int k) {
        if (noPost(net, a) || noPost(net, b)) {
            return refuse(BEYOND);
        }
        if (k < 0 || k > 4 || a == b || bookNets.contains(net)) {
            return refuse(NO);
        }
        int before = nets.get(net)[a][b];
        nets.get(net)[a][b] = k;
        nets.get(net)[b][a] = k;
        return before;
    }

    int look(int net, int what) {
        if (noNet(net)) {
            return refuse(BEYOND);
        }
        int[][] roads = nets.get(net);
        switch (what) {
            case 0: return kind(roads);
            case 1: return roads.length;
            case 2: return allRoads(roads);
            case 3: return genus(roads);
            case 4: return whole(roads) ? 1 : 0;
            default: return refuse(NO);
        }
    }

    int roads(int net, int post, int other) {
        if (noPost(net, post) || other != -1 && noPost(net, other)) {
            return refuse(BEYOND);
        }
        return other == -1 ? Arrays.stream(nets.get(net)[post]).sum() : nets.get(net)[post][other];
    }

    long trees(int net) {
        if (noNet(net)) {
            return refuse0(BEYOND);
        }
        return whole(nets.get(net)) ? trees(nets.get(net)) : refuse0(KIND);
    }

    long factor(int net, int k) {
        if (noNet(net)) {
            return refuse0(BEYOND);
        }
        if (!whole(nets.get(net))) {
            return refuse0(KIND);
        }
        if (k < 0 || k > nets.get(net).length - 2) {
            return refuse0(BEYOND);
        }
        return divisor(nets.get(net), k + 1) / divisor(nets.get(net), k);
    }

    long resist(int net, int a, int b, boolean lower) {
        if (noPost(net, a) || noPost(net, b)) {
            return refuse0(BEYOND);
        }
        int[][] roads = nets.get(net);
        if (!whole(roads)) {
            return refuse0(KIND);
        }
        long upper = a == b ? 0 : trees(together(roads, a, b));
        long common = gcd(upper, trees(roads));
        return (lower ? trees(roads) : upper) / common;
    }

    int gonality(int net) {
        if (noNet(net)) {
            return refuse(BEYOND);
        }
        int[][] roads = nets.get(net);
        if (!whole(roads)) {
            return refuse(KIND);
        }
        if (genus(roads) > 4) {
            return refuse(NO);
        }
        for (int degree = 1; ; degree++) {
            for (int[] goods : ways(roads.length, degree)) {
                if (atLeast(roads, goods, 1)) {
                    return degree;
                }
            }
        }
    }

    // ---- books

    int book(int net) {
        if (noNet(net)) {
            return refuse(BEYOND);
        }
        return addBook(net, new int[nets.get(net).length]);
    }

    int put(int book, int post, int v) {
        if (noPlace(book, post)) {
            return refuse0(BEYOND);
        }
        if (v < -300 || v > 300) {
            return refuse0(NO);
        }
        int before = books.get(book)[post];
        books.get(book)[post] = v;
        return before;
    }

    int at(int book, int post) {
        return noPlace(book, post) ? refuse0(BEYOND) : books.get(book)[post];
    }

    int degree(int book) {
        return noBook(book) ? refuse0(BEYOND) : Arrays.stream(books.get(book)).sum();
    }

    int good(int book) {
        if (noBook(book)) {
            return refuse(BEYOND);
        }
        return Arrays.stream(books.get(book)).allMatch(v -> v >= 0) ? 1 : 0;
    }

    int lend(int book, int post, int times) {
        if (noPlace(book, post)) {
            return refuse0(BEYOND);
        }
        if (times < -100 || times > 100) {
            return refuse0(NO);
        }
        int[] numbers = books.get(book).clone();
        for (int i = 0; i < Math.abs(times); i++) {
            lendOnce(roadsFor(book), numbers, post, times < 0 ? -1 : 1);
        }
        if (tooGreat(numbers)) {
            return refuse0(FULL);
        }
        books.set(book, numbers);
        return numbers[post];
    }

    int lendAll(int book, int posts) {
        if (noBook(book) || posts < 0 || posts >= 1 << books.get(book).length) {
            return refuse(BEYOND);
        }
        int[] numbers = books.get(book).clone();
        for (int post = 5; post >= 0; post--) {
            if ((posts & 1 << post) != 0) {
                lendOnce(roadsFor(book), numbers, post, 1);
            }
        }
        return tooGreat(numbers) ? refuse(FULL) : replace(book, numbers);
    }

    int own(int net) {
        if (noNet(net)) {
            return refuse(BEYOND);
        }
        return addBook(net, ownNumbers(nets.get(net)));
    }

    int sum(int book, int other, boolean less) {
        if (noBook(book) || noBook(other)) {
            return refuse(BEYOND);
        }
        if (unlike(book, other)) {
            return refuse(NO);
        }
        int[] numbers = books.get(book).clone();
        for (int i = 0; i < numbers.length; i++) {
            numbers[i] += (less ? -1 : 1) * books.get(other)[i];
        }
        return tooGreat(numbers) ? refuse(FULL) : addBook(bookNets.get(book), numbers);
    }

    int drop() {
        if (books.isEmpty()) {
            return refuse(-2);
        }
        books.remove(books.size() - 1);
        bookNets.remove(bookNets.size() - 1);
        return books.size();
    }

    // ---- reducing, winning

    int burn(int book, int post) {
        return noPlace(book, post) ? refuse(BEYOND) : fire(roadsFor(book), books.get(book), post);
    }

    int reduce(int book, int post) {
        if (noPlace(book, post)) {
            return refuse(BEYOND);
        }
        if (!whole(roadsFor(book))) {
            return refuse(KIND);
        }
        int[] numbers = books.get(book).clone();
        reduced(roadsFor(book), numbers, post);
        return tooGreat(numbers) ? refuse(FULL) : replace(book, numbers);
    }

    int like(int book, int other) {
        int refusal = noLike(book, other);
        return refusal != 0 ? refuse(refusal) : way(book, other) == null ? 0 : 1;
    }

    int how(int book, int other) {
        int refusal = noLike(book, other);
        if (refusal != 0) {
            return refuse(refusal);
        }
        int[] way = way(book, other);
        if (way == null) {
            return -1;
        }
        theRow = way;
        return way.length;
    }

    int won(int book) {
        if (noBook(book)) {
            return refuse(BEYOND);
        }
        if (!whole(roadsFor(book))) {
            return refuse(KIND);
        }
        return isWon(roadsFor(book), books.get(book)) ? 1 : 0;
    }

    int rank(int book) {
        int refusal = noRank(book);
        return refusal != 0 ? refuse(refusal) : rank(roadsFor(book), likeReduced(book));
    }

    int why(int book) {
        int refusal = noRank(book);
        if (refusal != 0) {
            return refuse(refusal);
        }
        int[][] roads = roadsFor(book);
        int[] numbers = likeReduced(book);
        int rank = rank(roads, numbers);
        if (rank > 20) {
            return refuse(FULL);
        }
        for (int[] goods : ways(roads.length, rank + 1)) {
            if (!isWon(roads, less(numbers, goods))) {
                theRow = goods;
                return rank + 1;
            }
        }
        throw new IllegalStateException("nothing breaks a book of rank " + rank);
    }

    long order(int book) {
        if (noBook(book)) {
            return refuse0(BEYOND);
        }
        int[][] roads = roadsFor(book);
        if (!whole(roads)) {
            return refuse0(KIND);
        }
        if (degree(book) != 0) {
            return refuse0(NO);
        }
        long trees = trees(roads);
        for (long times = 1; ; times++) {
            // The order divides the number of books of degree 0 that are not like, which is the trees.
            if (trees % times == 0 && isNought(timesReduced(roads, books.get(book), times))) {
                return times;
            }
        }
    }

    int fall(int book, int post) {
        if (noPlace(book, post)) {
            return refuse(BEYOND);
        }
        int[][] roads = roadsFor(book);
        if (!whole(roads)) {
            return refuse(KIND);
        }
        int[] numbers = books.get(book).clone();
        for (int other = 0; other < numbers.length; other++) {
            if (other != post && numbers[other] < 0) {
                return refuse(NO);
            }
        }
        int lends = 0;
        for (int falling = fallingPost(roads, numbers, post); falling >= 0; falling = fallingPost(roads, numbers, post)) {
            lendOnce(roads, numbers, falling, 1);
            lends++;
            if (lends > 100000) {
                return refuse(-9);
            }
        }
        if (tooGreat(numbers)) {
            return refuse(FULL);
        }
        books.set(book, numbers);
        return lends;
    }

    int same(int book, int other) {
        if (noBook(book) || noBook(other)) {
            return refuse(BEYOND);
        }
        return unlike(book, other) ? refuse(NO) : Arrays.equals(books.get(book), books.get(other)) ? 1 : 0;
    }

    int count(int what) {
        return what == 0 ? nets.size() : what == 1 ? books.size() : refuse(NO);
    }

    // ---- rows

    int lay(int net, int post) {
        if (noPost(net, post)) {
            return refuse(BEYOND);
        }
        theRow = nets.get(net)[post].clone();
        return theRow.length;
    }

    int tear() {
        int before = theRow == null ? 0 : 1;
        theRow = null;
        return before;
    }

    int row(int i) {
        if (theRow == null) {
            return refuse0(-2);
        }
        return i < 0 || i >= theRow.length ? refuse0(BEYOND) : theRow[i];
    }

    int copy(int i, int j, int n) {
        if (theRow == null) {
            return refuse(-2);
        }
        if (n < 0) {
            return refuse(-4);
        }
        if (i < 0 || j < 0 || (long) i + n > theRow.length || (long) j + n > theRow.length) {
            return refuse(-6);
        }
        int[] was = theRow.clone();
        for (int k = 0; k < n; k++) {
            theRow[j + k] = was[i + k];
        }
        return n;
    }

    int status(int by) {
        return by < -9 || by > -2 ? refuse(NO) : refusals.getOrDefault(by, 0);
    }

    // ---- told without being counted, to draw calls by

    int postsOfBook(int book) {
        return books.get(book).length;
    }

    boolean hasPlace(int book, int post) {
        return !noPlace(book, post);
    }

    int peek(int book, int post) {
        return books.get(book)[post];
    }

    int peekDegree(int book) {
        return Arrays.stream(books.get(book)).sum();
    }

    // ---- refusals

    private int refuse(int answer) {
        refusals.merge(answer, 1, Integer::sum);
        return answer;
    }

    private int refuse0(int reason) {
        refuse(reason);
        return 0;
    }

    private boolean noNet(int net) {
        return net < 0 || net >= nets.size();
    }

    private boolean noPost(int net, int post) {
        return noNet(net) || post < 0 || post >= nets.get(net).length;
    }

    private boolean noBook(int book) {
        return book < 0 || book >= books.size();
    }

    private boolean noPlace(int book, int post) {
        return noBook(book) || post < 0 || post >= books.get(book).length;
    }

    private boolean unlike(int book, int other) {
        return bookNets.get(book).intValue() != bookNets.get(other).intValue();
    }

    private int noLike(int book, int other) {
        if (noBook(book) || noBook(other)) {
            return BEYOND;
        }
        return unlike(book, other) ? NO : whole(roadsFor(book)) ? 0 : KIND;
    }

    private int noRank(int book) {
        if (noBook(book)) {
            return BEYOND;
        }
        return !whole(roadsFor(book)) ? KIND : genus(roadsFor(book)) > 4 ? NO : 0;
    }

    private static boolean tooGreat(int[] numbers) {
        return Arrays.stream(numbers).anyMatch(v -> v < -100000 || v > 100000);
    }

    private int addBook(int net, int[] numbers) {
        if (books.size() == 10) {
            return refuse(FULL);
        }
        books.add(numbers);
        bookNets.add(net);
        return books.size() - 1;
    }

    private int replace(int book, int[] numbers) {
        int others = 0;
        for (int i = 0; i < numbers.length; i++) {
            others += numbers[i] == books.get(book)[i] ? 0 : 1;
        }
        books.set(book, numbers);
        return others;
    }

    private int[][] roadsFor(int book) {
        return nets.get(bookNets.get(book));
    }

    /** What is won without some goods is told by any book that is like it: this one takes less time. */
    private int[] likeReduced(int book) {
        int[] numbers = books.get(book).clone();
        reduced(roadsFor(book), numbers, 0);
        return numbers;
    }

    private int[] way(int book, int other) {
        int[][] roads = roadsFor(book);
        int[] first = books.get(book).clone();
        int[] second = books.get(other).clone();
        long[] lends = reduced(roads, first, 0);
        long[] back = reduced(roads, second, 0);
        if (!Arrays.equals(first, second)) {
            return null;
        }
        for (int i = 0; i < lends.length; i++) {
            lends[i] -= back[i];
        }
        long least = Arrays.stream(lends).min().getAsLong();
        return Arrays.stream(lends).mapToInt(v -> (int) (v - least)).toArray();
    }

    // ---- what the terms say

    static int roadsOf(int[][] roads, int post) {
        return Arrays.stream(roads[post]).sum();
    }

    static int allRoads(int[][] roads) {
        return Arrays.stream(roads).mapToInt(line -> Arrays.stream(line).sum()).sum() / 2;
    }

    static int genus(int[][] roads) {
        return allRoads(roads) - roads.length + 1;
    }

    static boolean whole(int[][] roads) {
        boolean[] seen = new boolean[roads.length];
        visit(roads, 0, seen);
        for (boolean one : seen) {
            if (!one) {
                return false;
            }
        }
        return true;
    }

    private static void visit(int[][] roads, int post, boolean[] seen) {
        seen[post] = true;
        for (int other = 0; other < roads.length; other++) {
            if (roads[post][other] > 0 && !seen[other]) {
                visit(roads, other, seen);
            }
        }
    }

    static int kind(int[][] roads) {
        if (whole(roads)) {
            if (genus(roads) == 0) {
                return 0;
            }
            boolean ring = true;
            for (int post = 0; post < roads.length; post++) {
                ring &= roadsOf(roads, post) == 2;
            }
            return ring ? 1 : roads.length == 2 ? 2 : 3;
        }
        return 3;
    }

    static int[] ownNumbers(int[][] roads) {
        int[] numbers = new int[roads.length];
        for (int post = 0; post < numbers.length; post++) {
            numbers[post] = roadsOf(roads, post) - 2;
        }
        return numbers;
    }

    static int[][] together(int[][] roads, int a, int b) {
        int n = roads.length;
        int[] place = new int[n];
        int next = 1;
        for (int post = 0; post < n; post++) {
            place[post] = post == a || post == b ? 0 : next++;
        }
        int[][] joined = new int[n - 1][n - 1];
        for (int i = 0; i < n; i++) {
            for (int j = 0; j < n; j++) {
                if (place[i] != place[j]) {
                    joined[place[i]][place[j]] += roads[i][j];
                }
            }
        }
        return joined;
    }

    /** Each tree has one of the roads between the posts 0 and b, or none of them. */
    static long trees(int[][] roads) {
        if (roads.length == 1) {
            return 1;
        }
        for (int b = 1; b < roads.length; b++) {
            int k = roads[0][b];
            if (k > 0) {
                int[][] without = new int[roads.length][];
                for (int i = 0; i < without.length; i++) {
                    without[i] = roads[i].clone();
                }
                without[0][b] = 0;
                without[b][0] = 0;
                return k * trees(together(roads, 0, b)) + trees(without);
            }
        }
        return 0;
    }

    static long gcd(long a, long b) {
        return b == 0 ? Math.abs(a) : gcd(b, a % b);
    }

    static long divisor(int[][] roads, int size) {
        long common = 0;
        int n = roads.length;
        for (int lines = 0; lines < 1 << n - 1; lines++) {
            for (int columns = 0; columns < 1 << n - 1; columns++) {
                if (Integer.bitCount(lines) == size && Integer.bitCount(columns) == size) {
                    common = gcd(common, minor(roads, lines << 1, columns << 1));
                }
            }
        }
        return common;
    }

    /** By the first line: each of its numbers times what is left, the signs by turns. */
    private static long minor(int[][] roads, int lines, int columns) {
        if (lines == 0) {
            return 1;
        }
        int line = Integer.numberOfTrailingZeros(lines);
        long sum = 0;
        long sign = 1;
        for (int column = 0; column < roads.length; column++) {
            if ((columns & 1 << column) != 0) {
                long cell = line == column ? roadsOf(roads, line) : -roads[line][column];
                if (cell != 0) {
                    sum += sign * cell * minor(roads, lines & ~(1 << line), columns & ~(1 << column));
                }
                sign = -sign;
            }
        }
        return sum;
    }

    static void lendOnce(int[][] roads, int[] numbers, int post, int times) {
        numbers[post] -= times * roadsOf(roads, post);
        for (int other = 0; other < roads.length; other++) {
            numbers[other] += times * roads[post][other];
        }
    }

    static int fire(int[][] roads, int[] numbers, int start) {
        int burning = 1 << start;
        boolean more = true;
        while (more) {
            more = false;
            for (int post = 0; post < roads.length; post++) {
                int leading = 0;
                for (int other = 0; other < roads.length; other++) {
                    leading += (burning & 1 << other) != 0 ? roads[post][other] : 0;
                }
                if ((burning & 1 << post) == 0 && leading > numbers[post]) {
                    burning |= 1 << post;
                    more = true;
                }
            }
        }
        return burning;
    }

    /** Debts beside the base are borrowed away, then whatever the fire spares lends: told is how often each did. */
    static long[] reduced(int[][] roads, int[] numbers, int base) {
        int n = roads.length;
        long[] lends = new long[n];
        boolean debts = true;
        while (debts) {
            debts = false;
            for (int post = 0; post < n; post++) {
                while (post != base && numbers[post] < 0) {
                    lendOnce(roads, numbers, post, -1);
                    lends[post]--;
                    debts = true;
                }
            }
        }
        for (int burnt = fire(roads, numbers, base); burnt != (1 << n) - 1; burnt = fire(roads, numbers, base)) {
            for (int post = 0; post < n; post++) {
                if ((burnt & 1 << post) == 0) {
                    lendOnce(roads, numbers, post, 1);
                    lends[post]++;
                }
            }
        }
        return lends;
    }

    static boolean isWon(int[][] roads, int[] numbers) {
        int[] held = numbers.clone();
        reduced(roads, held, 0);
        return held[0] >= 0;
    }

    static int[] less(int[] numbers, int[] taken) {
        int[] left = numbers.clone();
        for (int i = 0; i < left.length; i++) {
            left[i] -= taken[i];
        }
        return left;
    }

    static boolean atLeast(int[][] roads, int[] numbers, int rank) {
        for (int[] goods : ways(roads.length, rank)) {
            if (!isWon(roads, less(numbers, goods))) {
                return false;
            }
        }
        return true;
    }

    /** By its definition up to a degree at which the law has begun to tell it, then by the law. */
    static int rank(int[][] roads, int[] numbers) {
        int degree = Arrays.stream(numbers).sum();
        int genus = genus(roads);
        if (degree > 2 * genus + 1) {
            return degree - genus;
        }
        int rank = -1;
        while (rank < degree && atLeast(roads, numbers, rank + 1)) {
            rank++;
        }
        return rank;
    }

    /** All ways to lay goods on posts, the most at post 0 first, then post 1, and so on. */
    static List<int[]> ways(int posts, int goods) {
        List<int[]> ways = new ArrayList<>();
        lay(new int[posts], 0, goods, ways);
        return ways;
    }

    private static void lay(int[] laid, int post, int goods, List<int[]> ways) {
        if (post == laid.length - 1) {
            laid[post] = goods;
            ways.add(laid.clone());
            return;
        }
        for (int here = goods; here >= 0; here--) {
            laid[post] = here;
            lay(laid, post + 1, goods - here, ways);
        }
    }

    private static boolean isNought(int[] numbers) {
        return Arrays.stream(numbers).allMatch(v -> v == 0);
    }

    /** The book times a number, reduced at post 0, by doubling. */
    private static int[] timesReduced(int[][] roads, int[] numbers, long times) {
        int[] all = new int[numbers.length];
        int[] power = numbers.clone();
        reduced(roads, power, 0);
        for (long rest = times; rest > 0; rest /= 2) {
            if (rest % 2 == 1) {
                addReduced(roads, all, power);
            }
            addReduced(roads, power, power.clone());
        }
        return all;
    }

    private static void addReduced(int[][] roads, int[] numbers, int[] added) {
        for (int i = 0; i < numbers.length; i++) {
            numbers[i] += added[i];
        }
        reduced(roads, numbers, 0);
    }

    private static int fallingPost(int[][] roads, int[] numbers, int resting) {
        for (int post = roads.length - 1; post >= 0; post--) {
            int needed = roadsOf(roads, post);
            if (post != resting && needed > 0 && numbers[post] >= needed) {
                return post;
            }
        }
        return -1;
    }
}

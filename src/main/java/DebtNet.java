/**
 * A bench for debts on nets: posts with goods or debts, lends along all roads at once, books led to
 * the only one that is reduced at a post, fires that show it, debts that can be paid off and ranks,
 * the law between a book and its rest, trees and the group of books, heaps that fall till they lie
 * still, and how hard it is to go from post to post.
 */
public final class DebtNet {
    /** None. */
    public static final int NONE = -1;
    /** Nothing there. */
    public static final int MISSING = -2;
    /** A number beyond. */
    public static final int BEYOND = -3;
    /** A count below 0. */
    public static final int BELOW = -4;
    /** A net that is not whole. */
    public static final int KIND = -5;
    /** A copy that can't be made. */
    public static final int COPY = -6;
    /** Not as told. */
    public static final int NO = -7;
    /** There is no room. */
    public static final int FULL = -8;
    /** The lends are through. */
    public static final int SPENT = -9;

    private static final int MOST_NETS = 4;
    private static final int MOST_BOOKS = 10;
    private static final int MOST_POSTS = 6;
    private static final int MOST_ROADS = 4;
    private static final int MOST_NUMBER = 100000;
    private static final int MOST_TOLD = 300;
    private static final int MOST_TIMES = 100;
    private static final int MOST_GENUS = 4;
    private static final int MOST_RANK = 20;
    private static final int MOST_LENDS = 100000;
    // No run comes near it: it only makes the end of a loop plain.
    private static final int MOST_ROUNDS = 1000000;

    private static final int TREE = 0;
    private static final int RING = 1;
    private static final int BANANA = 2;
    private static final int ANY_NET = 3;

    private final Net[] nets = new Net[MOST_NETS];
    private int netCount = 0;
    private final Book[] books = new Book[MOST_BOOKS];
    private int bookCount = 0;
    private final int[] theRow = new int[MOST_POSTS];
    private int rowLength = NONE;
    private final int[] refusals = new int[MISSING - SPENT + 1];
    // Numbers are made here first, so that a refused call leaves its book alone.
    private final int[] draft = new int[MOST_POSTS];
    private final Table table = new Table();
    private final Reducer reducer = new Reducer(table);
    private final Breaker breaker = new Breaker(reducer);

    /** No nets, no books. */
    public DebtNet() {
    }

    // ---- nets

    /** A net of n posts: its number. */
    public int net(int n) {
        if (n < 1 || n > MOST_POSTS) {
            return refuse(NO);
        }
        if (netCount >= MOST_NETS) {
            return refuse(FULL);
        }
        nets[netCount] = new Net(netCount, n);
        netCount++;
        return netCount - 1;
    }

    /** Two posts have k roads: how many before. */
    public int road(int net, int a, int b, int k) {
        Net found = findNet(net);
        if (found == null || !found.has(a) || !found.has(b)) {
            return refuse(BEYOND);
        }
        if (k < 0 || k > MOST_ROADS || a == b || hasBooks(found)) {
            return refuse(NO);
        }
        int before = found.roadsBetween(a, b);
        found.setRoads(a, b, k);
        return before;
    }

    /** Of a net: kind (what = 0), posts (1), roads (2), genus (3), whether it is whole (4). */
    public int look(int net, int what) {
        Net found = findNet(net);
        if (found == null) {
            return refuse(BEYOND);
        }
        switch (what) {
            case 0:
                return found.kind();
            case 1:
                return found.posts;
            case 2:
                return found.allRoads();
            case 3:
                return found.genus();
            case 4:
                return found.isWhole() ? 1 : 0;
            default:
                return refuse(NO);
        }
    }

    /** Roads of a post (other = NONE), or between two. */
    public int roads(int net, int post, int other) {
        Net found = findNet(net);
        if (found == null || !found.has(post) || other != NONE && !found.has(other)) {
            return refuse(BEYOND);
        }
        return other == NONE ? found.roadsOf(post) : found.roadsBetween(post, other);
    }

    /** Trees of a net. */
    public long trees(int net) {
        Net found = findNet(net);
        if (found == null) {
            return refuseTellingNought(BEYOND);
        }
        if (!found.isWhole()) {
            return refuseTellingNought(KIND);
        }
        return table.countTrees(found);
    }

    /** Factor k of the group of a net. */
    public long factor(int net, int k) {
        Net found = findNet(net);
        if (found == null) {
            return refuseTellingNought(BEYOND);
        }
        if (!found.isWhole()) {
            return refuseTellingNought(KIND);
        }
        if (k < 0 || k > found.posts - 2) {
            return refuseTellingNought(BEYOND);
        }
        long lower = table.commonDivisor(found, k);
        return lower == 0 ? 0 : table.commonDivisor(found, k + 1) / lower;
    }

    /** Resist of two posts: the upper or the lower number, in lowest terms. */
    public long resist(int net, int a, int b, boolean lower) {
        Net found = findNet(net);
        if (found == null || !found.has(a) || !found.has(b)) {
            return refuseTellingNought(BEYOND);
        }
        if (!found.isWhole()) {
            return refuseTellingNought(KIND);
        }
        if (a == b) {
            return lower ? 1 : 0;
        }
        int others = found.everyPost() & ~(1 << a) & ~(1 << b);
        long together = table.determinant(found, others, others);
        long apart = table.countTrees(found);
        long common = Table.greatestDivisor(together, apart);
        if (common == 0) {
            return 0;
        }
        return lower ? apart / common : together / common;
    }

    /** The gonality of a net. */
    public int gonality(int net) {
        Net found = findNet(net);
        int refusal = whyNoRank(found);
        if (found == null || refusal != 0) {
            return refuse(refusal);
        }
        reducer.prepare(found, 0);
        for (int degree = 1; degree < found.posts; degree++) {
            if (breaker.someReachesRankOne(found, degree)) {
                return degree;
            }
        }
        // One good at each post: whichever is taken, the rest is good.
        return found.posts;
    }

    // ---- books

    /** A book of a net: its number. */
    public int book(int net) {
        Net found = findNet(net);
        if (found == null) {
            return refuse(BEYOND);
        }
        clearDraft();
        return addBook(found);
    }

    /** A post's number is told: the one before. */
    public int put(int book, int post, int v) {
        Book found = findBook(book);
        if (found == null || !found.net.has(post)) {
            return refuseTellingNought(BEYOND);
        }
        if (v < -MOST_TOLD || v > MOST_TOLD) {
            return refuseTellingNought(NO);
        }
        int before = found.numbers[post];
        found.numbers[post] = v;
        return before;
    }

    /** A post's number. */
    public int at(int book, int post) {
        Book found = findBook(book);
        if (found == null || !found.net.has(post)) {
            return refuseTellingNought(BEYOND);
        }
        return found.numbers[post];
    }

    /** The degree of a book. */
    public int degree(int book) {
        Book found = findBook(book);
        if (found == null) {
            return refuseTellingNought(BEYOND);
        }
        return found.total();
    }

    /** Whether a book is good: 1, 0. */
    public int good(int book) {
        Book found = findBook(book);
        if (found == null) {
            return refuse(BEYOND);
        }
        return found.hasDebtBeside(NONE) ? 0 : 1;
    }

    /** A post lends so many times (below 0: borrows): its number then. */
    public int lend(int book, int post, int times) {
        Book found = findBook(book);
        if (found == null || !found.net.has(post)) {
            return refuseTellingNought(BEYOND);
        }
        if (times < -MOST_TIMES || times > MOST_TIMES) {
            return refuseTellingNought(NO);
        }
        found.copyTo(draft);
        found.net.moveGoods(draft, post, times);
        if (!draftFits()) {
            return refuseTellingNought(FULL);
        }
        found.takeFrom(draft);
        return found.numbers[post];
    }

    /** A set of posts (bits) lends: how many numbers are others then. */
    public int lendAll(int book, int posts) {
        Book found = findBook(book);
        if (found == null || posts < 0 || posts > found.net.everyPost()) {
            return refuse(BEYOND);
        }
        found.copyTo(draft);
        for (int post = 0; post < found.net.posts; post++) {
            if ((posts >> post & 1) != 0) {
                found.net.moveGoods(draft, post, 1);
            }
        }
        if (!draftFits()) {
            return refuse(FULL);
        }
        return found.takeFrom(draft);
    }

    /** A book comes: own of a net: its number. */
    public int own(int net) {
        Net found = findNet(net);
        if (found == null) {
            return refuse(BEYOND);
        }
        clearDraft();
        for (int post = 0; post < found.posts; post++) {
            draft[post] = found.roadsOf(post) - 2;
        }
        return addBook(found);
    }

    /** A book comes: two added (less: the other one taken away): its number. */
    public int sum(int book, int other, boolean less) {
        Book first = findBook(book);
        Book second = findBook(other);
        if (first == null || second == null) {
            return refuse(BEYOND);
        }
        if (first.net.number != second.net.number) {
            return refuse(NO);
        }
        draftOfTwo(first, second, less ? -1 : 1);
        if (!draftFits()) {
            return refuse(FULL);
        }
        return addBook(first.net);
    }

    /** The latest book goes: how many there are. */
    public int drop() {
        if (bookCount <= 0) {
            return refuse(MISSING);
        }
        bookCount--;
        return bookCount;
    }

    // ---- reducing, winning

    /** Posts that burn in the fire from one, as bits. */
    public int burn(int book, int post) {
        Book found = findBook(book);
        if (found == null || !found.net.has(post)) {
            return refuse(BEYOND);
        }
        return found.fireFrom(post);
    }

    /** A book becomes the one that is reduced at a post: how many numbers are others than before. */
    public int reduce(int book, int post) {
        Book found = findBook(book);
        if (found == null || !found.net.has(post)) {
            return refuse(BEYOND);
        }
        if (!found.net.isWhole()) {
            return refuse(KIND);
        }
        found.copyTo(draft);
        reducer.prepare(found.net, post);
        reducer.settle(draft);
        if (!draftFits()) {
            return refuse(FULL);
        }
        return found.takeFrom(draft);
    }

    /** Whether two books are like: 1, 0. */
    public int like(int book, int other) {
        Book first = findBook(book);
        Book second = findBook(other);
        int refusal = whyNotLed(first, second);
        if (first == null || second == null || refusal != 0) {
            return refuse(refusal);
        }
        return findWay(first, second) ? 1 : 0;
    }

    /** The row becomes how often each post lends from the first to the other book: how many posts. */
    public int how(int book, int other) {
        Book first = findBook(book);
        Book second = findBook(other);
        int refusal = whyNotLed(first, second);
        if (first == null || second == null || refusal != 0) {
            return refuse(refusal);
        }
        if (!findWay(first, second)) {
            return NONE;
        }
        int posts = first.net.posts;
        int least = 0;
        for (int post = 0; post < posts; post++) {
            least = Math.min(least, reducer.lends[post]);
        }
        for (int post = 0; post < posts; post++) {
            theRow[post] = reducer.lends[post] - least;
        }
        rowLength = posts;
        return posts;
    }

    /** Whether a book is won: 1, 0. */
    public int won(int book) {
        Book found = findBook(book);
        if (found == null) {
            return refuse(BEYOND);
        }
        if (!found.net.isWhole()) {
            return refuse(KIND);
        }
        found.copyTo(draft);
        reducer.prepare(found.net, 0);
        reducer.settle(draft);
        return draft[0] >= 0 ? 1 : 0;
    }

    /** The rank of a book. */
    public int rank(int book) {
        Book found = findBook(book);
        int refusal = whyNoRank(found == null ? null : found.net);
        if (found == null || refusal != 0) {
            return refuse(refusal);
        }
        reducer.prepare(found.net, 0);
        return breaker.findRank(found);
    }

    /** The row becomes the goods that break a book, post by post: how many in all. */
    public int why(int book) {
        Book found = findBook(book);
        int refusal = whyNoRank(found == null ? null : found.net);
        if (found == null || refusal != 0) {
            return refuse(refusal);
        }
        reducer.prepare(found.net, 0);
        int goods = breaker.findRank(found) + 1;
        if (goods > MOST_RANK + 1) {
            return refuse(FULL);
        }
        breaker.breaks(found.net, found.numbers, goods);
        System.arraycopy(breaker.taken.goods, 0, theRow, 0, MOST_POSTS);
        rowLength = found.net.posts;
        return goods;
    }

    /** The order of a book. */
    public long order(int book) {
        Book found = findBook(book);
        if (found == null) {
            return refuseTellingNought(BEYOND);
        }
        if (!found.net.isWhole()) {
            return refuseTellingNought(KIND);
        }
        if (found.total() != 0) {
            return refuseTellingNought(NO);
        }
        reducer.prepare(found.net, 0);
        return reducer.leastTimes(found.numbers);
    }

    /** A book falls at a post till it is still: how many lends. */
    public int fall(int book, int post) {
        Book found = findBook(book);
        if (found == null || !found.net.has(post)) {
            return refuse(BEYOND);
        }
        if (!found.net.isWhole()) {
            return refuse(KIND);
        }
        if (found.hasDebtBeside(post)) {
            return refuse(NO);
        }
        found.copyTo(draft);
        int lends = fallenLends(found.net, draft, post);
        if (lends > MOST_LENDS) {
            return refuse(SPENT);
        }
        if (!draftFits()) {
            return refuse(FULL);
        }
        found.takeFrom(draft);
        return lends;
    }

    /** Whether two books have the same numbers: 1, 0. */
    public int same(int book, int other) {
        Book first = findBook(book);
        Book second = findBook(other);
        if (first == null || second == null) {
            return refuse(BEYOND);
        }
        if (first.net.number != second.net.number) {
            return refuse(NO);
        }
        return first.differencesFrom(second.numbers) == 0 ? 1 : 0;
    }

    /** Nets (what = 0), books (1). */
    public int count(int what) {
        if (what != 0 && what != 1) {
            return refuse(NO);
        }
        return what == 0 ? netCount : bookCount;
    }

    // ---- rows

    /** The row becomes roads of a post with each post, by numbers: how many posts. */
    public int lay(int net, int post) {
        Net found = findNet(net);
        if (found == null || !found.has(post)) {
            return refuse(BEYOND);
        }
        for (int other = 0; other < found.posts; other++) {
            theRow[other] = found.roadsBetween(post, other);
        }
        rowLength = found.posts;
        return found.posts;
    }

    /** The row is missing: 1 if it was there, else 0. */
    public int tear() {
        int before = rowLength == NONE ? 0 : 1;
        rowLength = NONE;
        return before;
    }

    /** Number i of the row. */
    public int row(int i) {
        if (rowLength == NONE) {
            return refuseTellingNought(MISSING);
        }
        if (i < 0 || i >= rowLength) {
            return refuseTellingNought(BEYOND);
        }
        return theRow[i];
    }

    /** So many numbers of the row, from place i on, come to its place j on (as they were). */
    public int copy(int i, int j, int n) {
        if (rowLength == NONE) {
            return refuse(MISSING);
        }
        if (n < 0) {
            return refuse(BELOW);
        }
        // Taken away, not added: a sum of two ints could wrap around.
        if (i < 0 || j < 0 || n > rowLength || i > rowLength - n || j > rowLength - n) {
            return refuse(COPY);
        }
        System.arraycopy(theRow, i, theRow, j, n);
        return n;
    }

    /** How many calls were refused by an answer -2 .. -9. */
    public int status(int by) {
        if (by > MISSING || by < SPENT) {
            return refuse(NO);
        }
        return refusals[MISSING - by];
    }

    private int refuse(int answer) {
        if (answer <= MISSING && answer >= SPENT) {
            refusals[MISSING - answer]++;
        }
        return answer;
    }

    private int refuseTellingNought(int reason) {
        refuse(reason);
        return 0;
    }

    private Net findNet(int number) {
        return number >= 0 && number < netCount ? nets[number] : null;
    }

    private Book findBook(int number) {
        return number >= 0 && number < bookCount ? books[number] : null;
    }

    private boolean hasBooks(Net net) {
        for (int i = 0; i < bookCount; i++) {
            Book book = findBook(i);
            if (book != null && book.net.number == net.number) {
                return true;
            }
        }
        return false;
    }

    /** The refusal of a rank in this net, 0 for none. */
    private static int whyNoRank(Net net) {
        if (net == null) {
            return BEYOND;
        }
        if (!net.isWhole()) {
            return KIND;
        }
        return net.genus() > MOST_GENUS ? NO : 0;
    }

    /** The refusal to lead one book to the other, 0 for none. */
    private static int whyNotLed(Book first, Book second) {
        if (first == null || second == null) {
            return BEYOND;
        }
        if (first.net.number != second.net.number) {
            return NO;
        }
        return first.net.isWhole() ? 0 : KIND;
    }

    private boolean findWay(Book first, Book second) {
        draftOfTwo(first, second, -1);
        reducer.prepare(first.net, 0);
        return reducer.clears(draft);
    }

    /** A book of the numbers in the draft comes, if there is room: its number. */
    private int addBook(Net net) {
        if (bookCount >= MOST_BOOKS) {
            return refuse(FULL);
        }
        Book added = new Book(net);
        added.takeFrom(draft);
        books[bookCount] = added;
        bookCount++;
        return bookCount - 1;
    }

    private void clearDraft() {
        for (int post = 0; post < MOST_POSTS; post++) {
            draft[post] = 0;
        }
    }

    private void draftOfTwo(Book first, Book second, int sign) {
        for (int post = 0; post < MOST_POSTS; post++) {
            draft[post] = first.numbers[post] + sign * second.numbers[post];
        }
    }

    private boolean draftFits() {
        for (int post = 0; post < MOST_POSTS; post++) {
            if (draft[post] < -MOST_NUMBER || draft[post] > MOST_NUMBER) {
                return false;
            }
        }
        return true;
    }

    /** The numbers fall till they lie still, or till there were too many lends: how many lends. */
    private static int fallenLends(Net net, int[] numbers, int resting) {
        int lends = 0;
        boolean moved = true;
        // A round that moves lends once at the least, so MOST_LENDS + 1 rounds are enough.
        for (int round = 0; round <= MOST_LENDS && moved && lends <= MOST_LENDS; round++) {
            moved = false;
            for (int post = 0; post < net.posts; post++) {
                int roads = net.roadsOf(post);
                if (post != resting && roads > 0 && numbers[post] >= roads) {
                    // The order of lends doesn't matter, so a high heap lends many times at once.
                    int times = numbers[post] / roads;
                    net.moveGoods(numbers, post, times);
                    lends += times;
                    moved = true;
                }
            }
        }
        return lends;
    }

    /** Posts and the roads between them. */
    private static final class Net {
        final int number;
        final int posts;
        private final int[] between;

        Net(int number, int posts) {
            this.number = number;
            this.posts = posts;
            this.between = new int[MOST_POSTS * MOST_POSTS];
        }

        boolean has(int post) {
            return post >= 0 && post < posts;
        }

        int everyPost() {
            return (1 << posts) - 1;
        }

        int roadsBetween(int a, int b) {
            return between[a * MOST_POSTS + b];
        }

        void setRoads(int a, int b, int k) {
            between[a * MOST_POSTS + b] = k;
            between[b * MOST_POSTS + a] = k;
        }

        int roadsOf(int post) {
            int roads = 0;
            for (int other = 0; other < posts; other++) {
                roads += between[post * MOST_POSTS + other];
            }
            return roads;
        }

        int roadsInto(int post, int set) {
            int roads = 0;
            for (int other = 0; other < posts; other++) {
                if ((set >> other & 1) != 0) {
                    roads += between[post * MOST_POSTS + other];
                }
            }
            return roads;
        }

        int allRoads() {
            int ends = 0;
            for (int post = 0; post < posts; post++) {
                ends += roadsOf(post);
            }
            return ends / 2;
        }

        int genus() {
            return allRoads() - posts + 1;
        }

        boolean isWhole() {
            int reached = 1;
            for (int round = 1; round < posts; round++) {
                for (int post = 0; post < posts; post++) {
                    if (roadsInto(post, reached) > 0) {
                        reached |= 1 << post;
                    }
                }
            }
            return reached == everyPost();
        }

        int kind() {
            if (!isWhole()) {
                return ANY_NET;
            }
            if (genus() == 0) {
                return TREE;
            }
            if (eachHasTwoRoads()) {
                return RING;
            }
            return posts == 2 ? BANANA : ANY_NET;
        }

        private boolean eachHasTwoRoads() {
            for (int post = 0; post < posts; post++) {
                if (roadsOf(post) != 2) {
                    return false;
                }
            }
            return true;
        }

        /** One post lends so many times. */
        void moveGoods(int[] numbers, int post, int times) {
            for (int other = 0; other < posts; other++) {
                numbers[other] += times * roadsBetween(post, other);
            }
            numbers[post] -= times * roadsOf(post);
        }
    }

    /** A number for each post of a net; places beyond the net's posts stay 0. */
    private static final class Book {
        final Net net;
        final int[] numbers;

        Book(Net net) {
            this.net = net;
            this.numbers = new int[MOST_POSTS];
        }

        int total() {
            int total = 0;
            for (int post = 0; post < MOST_POSTS; post++) {
                total += numbers[post];
            }
            return total;
        }

        boolean hasDebtBeside(int spared) {
            for (int post = 0; post < MOST_POSTS; post++) {
                if (post != spared && numbers[post] < 0) {
                    return true;
                }
            }
            return false;
        }

        int differencesFrom(int[] others) {
            int differences = 0;
            for (int post = 0; post < MOST_POSTS; post++) {
                if (numbers[post] != others[post]) {
                    differences++;
                }
            }
            return differences;
        }

        void copyTo(int[] others) {
            System.arraycopy(numbers, 0, others, 0, MOST_POSTS);
        }

        /** Tells how many numbers are others than before. */
        int takeFrom(int[] others) {
            int differences = differencesFrom(others);
            System.arraycopy(others, 0, numbers, 0, MOST_POSTS);
            return differences;
        }

        int fireFrom(int start) {
            int burning = 1 << start;
            for (int round = 1; round < net.posts; round++) {
                for (int post = 0; post < net.posts; post++) {
                    if (net.roadsInto(post, burning) > numbers[post]) {
                        burning |= 1 << post;
                    }
                }
            }
            return burning;
        }
    }

    /** Determinants of the table of a net: roads of each post on the line, less roads elsewhere. */
    private static final class Table {
        private final long[] cells = new long[MOST_POSTS * MOST_POSTS];

        static long greatestDivisor(long a, long b) {
            long high = Math.abs(a);
            long low = Math.abs(b);
            for (int round = 0; round < MOST_ROUNDS && low != 0; round++) {
                long rest = high % low;
                high = low;
                low = rest;
            }
            return high;
        }

        long countTrees(Net net) {
            int others = net.everyPost() & ~1;
            return determinant(net, others, others);
        }

        /** The greatest number that divides all determinants of so many rows without post 0. */
        long commonDivisor(Net net, int size) {
            long common = 0;
            for (int lines = 0; lines <= net.everyPost() && common != 1; lines += 2) {
                if (Integer.bitCount(lines) == size) {
                    common = commonDivisorOfLines(net, lines, common);
                }
            }
            return common;
        }

        private long commonDivisorOfLines(Net net, int lines, long start) {
            int size = Integer.bitCount(lines);
            long common = start;
            // The table is its own mirror, so columns before the lines were met already.
            for (int columns = lines; columns <= net.everyPost() && common != 1; columns += 2) {
                if (Integer.bitCount(columns) == size) {
                    common = greatestDivisor(common, determinant(net, lines, columns));
                }
            }
            return common;
        }

        /**
         * The determinant of these lines and columns (bits, as many of each); 1 of none. It is told
         * without its sign: what it is asked for is a count or is divided.
         */
        long determinant(Net net, int lines, int columns) {
            int size = fill(net, lines, columns);
            long before = 1;
            for (int step = 0; step + 1 < size; step++) {
                int pivot = pivotLine(step, size);
                if (pivot < 0) {
                    return 0;
                }
                if (pivot != step) {
                    swapLines(pivot, step);
                }
                clearBelow(step, size, before);
                before = cells[step * MOST_POSTS + step];
            }
            return size == 0 ? 1 : Math.abs(cells[(size - 1) * MOST_POSTS + size - 1]);
        }

        private int fill(Net net, int lines, int columns) {
            int line = 0;
            for (int post = 0; post < net.posts; post++) {
                if ((lines >> post & 1) != 0) {
                    fillLine(net, post, columns, line * MOST_POSTS);
                    line++;
                }
            }
            return line;
        }

        private void fillLine(Net net, int post, int columns, int start) {
            int place = start;
            for (int other = 0; other < net.posts; other++) {
                if ((columns >> other & 1) != 0) {
                    cells[place] = post == other ? net.roadsOf(post) : -net.roadsBetween(post, other);
                    place++;
                }
            }
        }

        private int pivotLine(int step, int size) {
            for (int line = step; line < size; line++) {
                if (cells[line * MOST_POSTS + step] != 0) {
                    return line;
                }
            }
            return NONE;
        }

        private void swapLines(int a, int b) {
            for (int column = 0; column < MOST_POSTS; column++) {
                long cell = cells[a * MOST_POSTS + column];
                cells[a * MOST_POSTS + column] = cells[b * MOST_POSTS + column];
                cells[b * MOST_POSTS + column] = cell;
            }
        }

        /** By whole numbers alone: the pivot before divides each new cell without a rest. */
        private void clearBelow(int step, int size, long before) {
            int top = step * MOST_POSTS;
            for (int line = step + 1; line < size && before != 0; line++) {
                int start = line * MOST_POSTS;
                for (int column = step + 1; column < size; column++) {
                    cells[start + column] = (cells[start + column] * cells[top + step]
                            - cells[start + step] * cells[top + column]) / before;
                }
            }
        }
    }

    /** Leads numbers on a whole net to those reduced at a post; the net and the post are prepared first. */
    private static final class Reducer {
        private final Table table;
        // Till a net is prepared, one of a single post: so there is always one.
        private Net net = new Net(0, 1);
        private int base = 0;
        private long trees = 1;
        private final int[] shares = new int[MOST_POSTS * MOST_POSTS];
        final int[] lends = new int[MOST_POSTS];

        Reducer(Table table) {
            this.table = table;
        }

        void prepare(Net net, int base) {
            this.net = net;
            this.base = base;
            int others = net.everyPost() & ~(1 << base);
            trees = table.determinant(net, others, others);
            for (int post = 0; post < net.posts; post++) {
                for (int other = post; other < net.posts; other++) {
                    // A share counts forests, so it is never below 0.
                    long share = post == base || other == base ? 0
                            : table.determinant(net, others & ~(1 << post), others & ~(1 << other));
                    shares[post * MOST_POSTS + other] = (int) share;
                    shares[other * MOST_POSTS + post] = (int) share;
                }
            }
        }

        /** How often a post lends to make all numbers but the base's 0, times the trees. */
        private long lendsTimesTrees(int[] numbers, int post) {
            long amount = 0;
            for (int other = 0; other < net.posts; other++) {
                amount += (long) shares[post * MOST_POSTS + other] * numbers[other];
            }
            return amount;
        }

        /** Whether lends and borrows make all numbers 0; if so, they are kept in lends (0 at the base). */
        boolean clears(int[] numbers) {
            long total = 0;
            for (int post = 0; post < net.posts; post++) {
                long amount = lendsTimesTrees(numbers, post);
                if (trees == 0 || amount % trees != 0) {
                    return false;
                }
                lends[post] = (int) (amount / trees);
                total += numbers[post];
            }
            return total == 0;
        }

        /** The least number above 0 that makes the numbers, times that, ones that can be cleared. */
        long leastTimes(int[] numbers) {
            long least = 1;
            for (int post = 0; post < net.posts; post++) {
                long step = Table.greatestDivisor(trees, lendsTimesTrees(numbers, post));
                long needed = step == 0 ? 1 : trees / step;
                long common = Table.greatestDivisor(least, needed);
                least = common == 0 ? least : least / common * needed;
            }
            return least;
        }

        /**
         * The numbers become the ones reduced at the base. Of all ways to lend that leave no debt
         * beside the base, theirs is the one in which each post lends the most. No post can lend
         * more than what clears the numbers, so it starts there; and a post that is in debt while
         * no other lends too little must itself have lent too much.
         */
        void settle(int[] numbers) {
            for (int post = 0; post < net.posts && trees != 0; post++) {
                lends[post] = (int) Math.floorDiv(lendsTimesTrees(numbers, post), trees);
            }
            for (int post = 0; post < net.posts; post++) {
                net.moveGoods(numbers, post, lends[post]);
            }
            boolean borrowed = true;
            for (int round = 0; round < MOST_ROUNDS && borrowed; round++) {
                borrowed = borrowInDebt(numbers);
            }
        }

        private boolean borrowInDebt(int[] numbers) {
            boolean borrowed = false;
            for (int post = 0; post < net.posts; post++) {
                int roads = net.roadsOf(post);
                if (post != base && numbers[post] < 0 && roads > 0) {
                    net.moveGoods(numbers, post, Math.floorDiv(numbers[post], roads));
                    borrowed = true;
                }
            }
            return borrowed;
        }
    }

    /** Ways to take goods away, for ranks; the reducer is prepared at post 0 first. */
    private static final class Breaker {
        private final Reducer reducer;
        final Taking taken = new Taking();
        private final Taking held = new Taking();
        private final int[] left = new int[MOST_POSTS];

        Breaker(Reducer reducer) {
            this.reducer = reducer;
        }

        int findRank(Book book) {
            int total = book.total();
            int genus = book.net.genus();
            if (total < 0) {
                return -1;
            }
            // The law tells the rank here, and heaps of goods would make too many ways to take.
            if (total > 2 * genus - 2) {
                return total - genus;
            }
            for (int goods = 0; goods <= total; goods++) {
                if (breaks(book.net, book.numbers, goods)) {
                    return goods - 1;
                }
            }
            return total;
        }

        /** Whether the taking of so many goods leaves one not won; taken holds the first way then. */
        boolean breaks(Net net, int[] numbers, int goods) {
            taken.start(goods);
            boolean more = true;
            for (int round = 0; round < MOST_ROUNDS && more; round++) {
                for (int post = 0; post < MOST_POSTS; post++) {
                    left[post] = numbers[post] - taken.goods[post];
                }
                reducer.settle(left);
                if (left[0] < 0) {
                    return true;
                }
                more = taken.advance(net.posts);
            }
            return false;
        }

        /** Whether a good book of this degree (above 0) has rank 1 or more. */
        boolean someReachesRankOne(Net net, int degree) {
            // A book of rank 1 stays won without a good at post 0, so it is like one with a good there.
            held.start(degree - 1);
            boolean more = true;
            for (int round = 0; round < MOST_ROUNDS && more; round++) {
                held.goods[0]++;
                boolean broken = breaks(net, held.goods, 1);
                held.goods[0]--;
                if (!broken) {
                    return true;
                }
                more = held.advance(net.posts);
            }
            return false;
        }
    }

    /** So many goods laid on posts, each way once: the most at post 0 first, then post 1, and so on. */
    private static final class Taking {
        final int[] goods = new int[MOST_POSTS];

        void start(int all) {
            for (int post = 1; post < MOST_POSTS; post++) {
                goods[post] = 0;
            }
            goods[0] = all;
        }

        /** Comes to the next way; false: there is none. */
        boolean advance(int posts) {
            int last = posts - 1;
            for (int post = last - 1; post >= 0; post--) {
                if (goods[post] > 0) {
                    int moved = goods[last] + 1;
                    goods[last] = 0;
                    goods[post]--;
                    goods[post + 1] = moved;
                    return true;
                }
            }
            return false;
        }
    }
}

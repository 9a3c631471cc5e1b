import java.util.function.Consumer;

/** What a bench holds before the call that is tested. */
final class Settings {
    static final Consumer<DebtNet> NOTHING = x -> { };

    private Settings() {
    }

    /** A net whose roads are told as digits: 0-1, 0-2, 1-2, 0-3, 1-3, 2-3, 0-4 and so on; no digit: none. */
    static Consumer<DebtNet> net(int n, String roads) {
        return x -> {
            int net = x.net(n);
            int place = 0;
            for (int b = 1; b < n; b++) {
                for (int a = 0; a < b && place < roads.length(); a++) {
                    x.road(net, a, b, roads.charAt(place++) - '0');
                }
            }
        };
    }

    static Consumer<DebtNet> path(int n) {
        StringBuilder roads = new StringBuilder();
        for (int b = 1; b < n; b++) {
            roads.append("0".repeat(b - 1)).append('1');
        }
        return net(n, roads.toString());
    }

    static Consumer<DebtNet> ring(int n) {
        return path(n).andThen(x -> x.road(x.count(0) - 1, 0, n - 1, 1));
    }

    /** Each post has k roads with each. */
    static Consumer<DebtNet> all(int n, int k) {
        return net(n, String.valueOf(k).repeat(n * (n - 1) / 2));
    }

    /** A book of the latest net. */
    static Consumer<DebtNet> book(int... numbers) {
        return x -> {
            int book = x.book(x.count(0) - 1);
            for (int post = 0; post < numbers.length; post++) {
                x.put(book, post, numbers[post]);
            }
        };
    }

    static Consumer<DebtNet> then(Consumer<DebtNet> first, Consumer<DebtNet> second) {
        return first.andThen(second);
    }

    /** On two posts with one road: book 9 has the first number (96000 .. 100000 or below 0 so) and the second. */
    static Consumer<DebtNet> great(int first, int second) {
        int sign = first < 0 ? -1 : 1;
        return path(2).andThen(book(sign * 300)).andThen(x -> {
            for (int book = 0; book < 8; book++) {
                x.sum(book, book, false);
            }
            x.sum(8, 6, false);
            for (int call = 0; call < 50 && x.at(9, 0) != first; call++) {
                x.lend(9, 1, Math.max(-100, Math.min(100, first - x.at(9, 0))));
            }
            x.put(9, 1, second);
        });
    }

    static DebtNet made(Consumer<DebtNet> setting) {
        DebtNet x = new DebtNet();
        setting.accept(x);
        return x;
    }

    /** Numbers that are no place among so many, the smallest and the greatest int among them. */
    static int[] beside(int many) {
        return new int[] {-1, many, many + 1, Integer.MIN_VALUE, Integer.MAX_VALUE};
    }
}

import java.util.function.Consumer;

/** What a bench holds before the call that is tested. */
final class Settings {
    static final Consumer<DebtNet> NOTHING = x -> { };

    private Settings() {
    }

    /** A net whose roads are told as digits: 0-1, 0-2, 1-2, 0-3, 1-3, 2-3, 0-4 and so on; no digit: none. */
    static Consumer<DebtNet> net(int n, String roads) {
        return x -> {
            int net = x.net(n);
            int place = 0;
            for (int b = 1; b < n; b++) {
                for (int a = 0; a < b && place < roads.length(); a++) {
                    x.road(net, a, b, roads.charAt(place++) - '0');
                }
            }
        };
    }

    static Consumer<DebtNet> path(int n) {
        StringBuilder roads = new StringBuilder();
        for (int b = 1; b < n; b++) {
            roads.append("0".repeat(b - 1)).append('1');
        }
        return net(n, roads.toString());
    }

    static Consumer<DebtNet> ring(int n) {
        return path(n).andThen(x -> x.road(x.count(0) - 1, 0, n - 1, 1));
    }

    /** Each post has k roads with each. */
    static Consumer<DebtNet> all(int n, int k) {
        return net(n, String.valueOf(k).repeat(n * (n - 1) / 2));
    }

    /** A book of the latest net. */
    static Consumer<DebtNet> book(int... numbers) {
        return x -> {
            int book = x.book(x.count(0) - 1);
            for (int post = 0; post < numbers.length; post++) {
                x.put(book, post, numbers[post]);
            }
        };
    }

    static Consumer<DebtNet> bookOf(int net, int... numbers) {
        return x -> {
            int book = x.book(net);
            for (int post = 0; post < numbers.length; post++) {
                x.put(book, post, numbers[post]);
            }
        };
    }

    /**
     * Three nets: 0 whole, of 3 posts and genus 2; 1 not whole, of 6 posts, genus 7; 2 whole, of 3 posts,
     * genus 5. Books 0 and 1 are of net 0, book 2 of net 1, book 3 of net 2. The row is 0 4 2.
     */
    static Consumer<DebtNet> bench() {
        return net(3, "211").andThen(net(6, "444")).andThen(net(3, "421"))
                .andThen(bookOf(0, 5, -2, 0)).andThen(bookOf(0, 1, 1, 1))
                .andThen(bookOf(1, 1, 2, 3, 4, 5, -6)).andThen(bookOf(2, 4, -1, 0)).andThen(x -> x.lay(2, 0));
    }

    /** The same without a place for one more: net 3 is of 2 posts, books 4 .. 9 are of net 0. */
    static Consumer<DebtNet> fullBench() {
        return bench().andThen(path(2)).andThen(x -> {
            for (int book = 4; book < 10; book++) {
                x.own(0);
            }
        });
    }

    /**
     * A book of net 0, which has six posts with four roads each with each: this number at post 0, as 100
     * borrows bring 2000 there, and noughts elsewhere.
     */
    static Consumer<DebtNet> heap(int number) {
        return x -> {
            int book = x.book(0);
            x.put(book, 0, number % 2000);
            for (int call = 0; call < Math.abs(number) / 2000; call++) {
                x.lend(book, 0, number < 0 ? 100 : -100);
            }
            for (int post = 1; post < 6; post++) {
                x.put(book, post, 0);
            }
        };
    }

    /** Book 2 on a star of six posts, four roads each way from post 5: each number is 100000 (sign -1: -100000). */
    static Consumer<DebtNet> brim(int sign) {
        return net(6, "0000000000" + "44444").andThen(x -> {
            int leaves = x.book(0);
            for (int call = 0; call < 250; call++) {
                x.lend(leaves, 5, sign * 100);
                if (call % 50 == 49) {
                    x.put(leaves, 5, 0);
                }
            }
            int center = x.book(0);
            for (int call = 0; call < 50; call++) {
                x.lend(center, 5, sign * -100);
            }
            for (int post = 0; post < 5; post++) {
                x.put(center, post, 0);
            }
            x.sum(leaves, center, false);
        });
    }

    /** On two posts with one road: book 9 has the first number (96000 .. 100000 or below 0 so) and the second. */
    static Consumer<DebtNet> great(int first, int second) {
        return greatOn(path(2), first, second);
    }

    /** The same on any net whose posts 0 and 1 have one road. */
    static Consumer<DebtNet> greatOn(Consumer<DebtNet> net, int first, int second) {
        int sign = first < 0 ? -1 : 1;
        return net.andThen(book(sign * 300)).andThen(x -> {
            for (int book = 0; book < 8; book++) {
                x.sum(book, book, false);
            }
            x.sum(8, 6, false);
            for (int call = 0; call < 50 && x.at(9, 0) != first; call++) {
                x.lend(9, 1, Math.max(-100, Math.min(100, first - x.at(9, 0))));
            }
            x.put(9, 1, second);
        });
    }

    static DebtNet made(Consumer<DebtNet> setting) {
        DebtNet x = new DebtNet();
        setting.accept(x);
        return x;
    }

    /** Numbers that are no place among so many, the smallest and the greatest int among them. */
    static int[] beside(int many) {
        return new int[] {-1, many, many + 1, Integer.MIN_VALUE, Integer.MAX_VALUE};
    }
}

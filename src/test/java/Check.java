import java.util.function.Consumer;
import java.util.function.ToLongFunction;

/** Compares answers with those that are due, and counts the ones that are not. */
final class Check {
    private static final int[] CODES = {-2, -3, -4, -5, -6, -7, -8, -9};

    private static int checks = 0;
    private static int wrong = 0;
    private static String part = "";

    private Check() {
    }

    static void part(String name) {
        part = name;
    }

    static int count() {
        return checks;
    }

    static void due(String call, long got, long want) {
        checks++;
        if (got != want) {
            tellWrong(call + " answered " + got + ", due is " + want);
        }
    }

    static void due(String what, String got, String want) {
        checks++;
        if (!got.equals(want)) {
            tellWrong(what + " is " + got + ", due is " + want);
        }
    }

    static void tellWrong(String what) {
        wrong++;
        System.out.println(part + ": " + what);
    }

    /** A refusal: it answers so, is counted under its code alone, and changes nothing else. */
    static void refused(String call, Consumer<DebtNet> setting, ToLongFunction<DebtNet> made, long answer, int code) {
        DebtNet x = new DebtNet();
        setting.accept(x);
        String before = state(x);
        int[] counts = counts(x);
        due(call, made.applyAsLong(x), answer);
        counts[-2 - code]++;
        due(call + ": the refusals", text(counts(x)), text(counts));
        due(call + ": the state", state(x), before);
    }

    static void refused(String call, Consumer<DebtNet> setting, ToLongFunction<DebtNet> made, int code) {
        refused(call, setting, made, code, code);
    }

    static void refusedByNought(String call, Consumer<DebtNet> setting, ToLongFunction<DebtNet> made, int code) {
        refused(call, setting, made, 0, code);
    }

    /** A call that only tells: it answers so, is no refusal, and changes nothing. */
    static void told(String call, Consumer<DebtNet> setting, ToLongFunction<DebtNet> made, long answer) {
        DebtNet x = new DebtNet();
        setting.accept(x);
        String before = state(x);
        int[] counts = counts(x);
        due(call, made.applyAsLong(x), answer);
        due(call + ": the refusals", text(counts(x)), text(counts));
        due(call + ": the state", state(x), before);
    }

    static int[] counts(DebtNet x) {
        int[] counts = new int[CODES.length];
        for (int i = 0; i < CODES.length; i++) {
            counts[i] = x.status(CODES[i]);
        }
        return counts;
    }

    /**
     * All that can be seen of nets, books and the row, in few calls, as an object has but 512 of them;
     * it may add to the counts of refusals.
     */
    static String state(DebtNet x) {
        StringBuilder state = new StringBuilder();
        int nets = x.count(0);
        for (int net = 0; net < nets; net++) {
            int posts = x.look(net, 1);
            state.append("net").append(net).append(" of ").append(posts).append(':');
            for (int a = 0; a < posts; a++) {
                for (int b = 0; b < a; b++) {
                    state.append(' ').append(x.roads(net, a, b));
                }
            }
            state.append('\n');
        }
        int books = x.count(1);
        for (int book = 0; book < books; book++) {
            state.append("book").append(book).append(": ").append(book(x, book, 6)).append('\n');
        }
        return state.append("row: ").append(row(x)).toString();
    }

    static String row(DebtNet x) {
        StringBuilder row = new StringBuilder();
        for (int i = 0; i < 7; i++) {
            // No number copied: it changes nothing, and tells whether the row is as long as that.
            int there = x.copy(i, i, 0);
            if (there == DebtNet.MISSING) {
                return "missing";
            }
            if (there == DebtNet.COPY) {
                break;
            }
            if (i > 0) {
                row.append(x.row(i - 1)).append(' ');
            }
        }
        return row.toString().trim();
    }

    static String book(DebtNet x, int book, int posts) {
        StringBuilder numbers = new StringBuilder();
        for (int post = 0; post < posts; post++) {
            numbers.append(x.at(book, post)).append(' ');
        }
        return numbers.toString().trim();
    }

    private static String text(int[] numbers) {
        return java.util.Arrays.toString(numbers);
    }

    /** Tells how it went and ends the program. */
    static void end(String name) {
        System.out.println(name + ": " + checks + " checks, " + wrong + " wrong");
        System.exit(wrong == 0 && checks > 0 ? 0 : 1);
    }
}

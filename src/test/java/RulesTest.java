import java.io.IOException;
import java.lang.reflect.Field;
import java.lang.reflect.Modifier;
import java.nio.file.Files;
import java.nio.file.Path;
import java.util.regex.Pattern;

/** The rules of LANGUAGE.md that a look at the class and its text can tell, and the room that calls take. */
public final class RulesTest {
    private static final String[] FORBIDDEN = {"throw", "throws", "try", "catch", "synchronized", "assert", "import",
        "package", "double", "float", "System.out", "System.nanoTime", "System.currentTimeMillis", "Thread", "Random",
        "->", "::", "@", "protected", "native", "volatile", "Exact", "equals", "hashCode", "toString"};

    public static void main(String[] args) throws IOException {
        members();
        text(Files.readString(Path.of("src/main/java/DebtNet.java")));
        room();
        Check.end("RulesTest");
    }

    private static void members() {
        Check.part("the members");
        Check.due("at most twelve classes", DebtNet.class.getDeclaredClasses().length < 12 ? 1 : 0, 1);
        for (Field one : DebtNet.class.getDeclaredFields()) {
            if (Modifier.isStatic(one.getModifiers())) {
                Check.due(one + " is final", Modifier.isFinal(one.getModifiers()) ? 1 : 0, 1);
            }
        }
    }

    private static void text(String text) {
        Check.part("the text");
        String code = text.replaceAll("(?s)/\\*.*?\\*/", "").replaceAll("//[^\n]*", "");
        for (String word : FORBIDDEN) {
            boolean letters = Character.isLetter(word.charAt(0));
            String pattern = letters ? "\\b" + Pattern.quote(word) + "\\b" : Pattern.quote(word);
            Check.due("'" + word + "'", Pattern.compile(pattern).matcher(code).find() ? 1 : 0, 0);
        }
        for (int i = 0; i < text.length(); i++) {
            if (text.charAt(i) > 126) {
                Check.due("a sign beyond 126 at " + i, text.charAt(i), ' ');
            }
        }
        int length = 0;
        for (String line : code.split("\n")) {
            length = line.matches(" {4,8}[\\w\\[\\]<> ]+\\(.*\\{") ? 0 : length + 1;
            Check.due("a method of sixty lines", length > 60 && !line.isBlank() ? 1 : 0, 0);
        }
    }

    /** Objects are made for nets and books alone: the dearest calls make none, 512 times. */
    private static void room() {
        Check.part("the room");
        DebtNet x = Settings.made(Settings.net(6, "111100010100111"));
        x.own(0);
        x.book(0);
        long least = Long.MAX_VALUE;
        for (int round = 0; round < 5; round++) {
            long before = allocated();
            for (int call = 0; call < 512; call++) {
                x.gonality(0);
                x.rank(0);
                x.why(0);
                x.factor(0, 3);
                x.resist(0, 1, 4, true);
                x.order(1);
                x.how(0, 0);
                x.reduce(0, call % 6);
                x.fall(1, 2);
                x.sum(0, 1, true);
                x.drop();
            }
            least = Math.min(least, allocated() - before);
        }
        // 512 books of 6 numbers, each with its heads, and what the measuring itself takes.
        Check.due("bytes of 5632 calls, " + least + ", are few", least < 200000 ? 1 : 0, 1);
    }

    private static long allocated() {
        return ((com.sun.management.ThreadMXBean) java.lang.management.ManagementFactory.getThreadMXBean())
                .getThreadAllocatedBytes(Thread.currentThread().getId());
    }
}

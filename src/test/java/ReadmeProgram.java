import java.io.IOException;
import java.lang.reflect.Method;
import java.lang.reflect.Modifier;
import java.nio.file.Files;
import java.nio.file.Path;
import java.util.Set;
import java.util.TreeSet;
import java.util.regex.Matcher;
import java.util.regex.Pattern;

/**
 * Makes YourProgram.java of the Java that README.md shows: it compares each call with the answer told
 * behind it. Each call must tell one, and each method of the face must be shown.
 */
public final class ReadmeProgram {
    private static final Pattern BLOCK = Pattern.compile("(?ms)^```java\\n(.*?)^```$");
    private static final Pattern CALL =
            Pattern.compile("(?:(int|long) (\\w+) = )?(bench\\.(\\w+)\\(.*\\)); +// (-?\\d+|[A-Z]+)(?:: .+)?");
    private static final String BENCH = "DebtNet bench = new DebtNet();";
    private static final String HEAD = """
            public final class YourProgram {
                private static int wrong = 0;

                private static void due(String call, long got, long want) {
                    if (got != want) {
                        wrong++;
                        System.out.println("README.md: " + call + " answered " + got + ", told is " + want);
                    }
                }

                public static void main(String[] args) {
            """;
    private static final String FOOT = """
                    System.out.println("README.md: " + wrong + " answers are not as told");
                    System.exit(wrong == 0 ? 0 : 1);
                }
            }
            """;

    private final StringBuilder program = new StringBuilder(HEAD);
    private final Set<String> shown = new TreeSet<>();
    private int wrong = 0;

    public static void main(String[] args) throws IOException {
        if (args.length != 2) {
            System.out.println("ReadmeProgram README.md YourProgram.java");
            System.exit(2);
        }
        ReadmeProgram made = new ReadmeProgram();
        made.read(Files.readString(Path.of(args[0])));
        Files.writeString(Path.of(args[1]), made.program.append(FOOT).toString());
        System.exit(made.wrong == 0 ? 0 : 1);
    }

    private void read(String readme) {
        Matcher block = BLOCK.matcher(readme);
        while (block.find()) {
            block.group(1).lines().filter(line -> !line.isBlank()).forEach(this::add);
        }
        Set<String> missing = new TreeSet<>();
        for (Method one : DebtNet.class.getDeclaredMethods()) {
            if (Modifier.isPublic(one.getModifiers()) && !shown.contains(one.getName())) {
                missing.add(one.getName());
            }
        }
        if (!missing.isEmpty()) {
            tellWrong("does not show " + missing);
        }
    }

    private void add(String line) {
        Matcher call = CALL.matcher(line.trim());
        if (call.matches()) {
            shown.add(call.group(4));
            String got = call.group(3);
            if (call.group(1) != null) {
                got = call.group(2);
                program.append(call.group(1)).append(' ').append(got).append(" = ").append(call.group(3)).append(";\n");
            }
            String want = Character.isLetter(call.group(5).charAt(0)) ? "DebtNet." + call.group(5) : call.group(5);
            program.append("due(\"").append(call.group(3)).append("\", ").append(got).append(", ").append(want).append(");\n");
        } else if (line.trim().equals(BENCH)) {
            program.append(BENCH).append('\n');
        } else {
            tellWrong("has a line without a call and its answer: " + line);
        }
    }

    private void tellWrong(String what) {
        wrong++;
        System.out.println("README.md " + what);
    }
}

import java.io.IOException;
import java.lang.reflect.Constructor;
import java.lang.reflect.Field;
import java.lang.reflect.Method;
import java.lang.reflect.Modifier;
import java.nio.file.Files;
import java.nio.file.Path;
import java.util.Map;
import java.util.Set;
import java.util.TreeMap;
import java.util.TreeSet;
import java.util.regex.Matcher;
import java.util.regex.Pattern;

/** The face of the class, the rules of LANGUAGE.md that a look at the text can tell, and the room that calls take. */
public final class RulesTest {
    private static final String FACE = "int net(int) int road(int,int,int,int) int look(int,int) int roads(int,int,int) "
            + "long trees(int) long factor(int,int) long resist(int,int,int,boolean) int gonality(int) int book(int) "
            + "int put(int,int,int) int at(int,int) int degree(int) int good(int) int lend(int,int,int) int lendAll(int,int) "
            + "int own(int) int sum(int,int,boolean) int drop() int burn(int,int) int reduce(int,int) int like(int,int) "
            + "int how(int,int) int won(int) int rank(int) int why(int) long order(int) int fall(int,int) int same(int,int) "
            + "int count(int) int lay(int,int) int tear() int row(int) int copy(int,int,int) int status(int)";
    private static final Map<String, Integer> CONSTANTS = Map.of("NONE", -1, "MISSING", -2, "BEYOND", -3, "BELOW", -4,
            "KIND", -5, "COPY", -6, "NO", -7, "FULL", -8, "SPENT", -9);
    private static final String[] FORBIDDEN = {"throw", "throws", "try", "catch", "synchronized", "assert", "import",
        "package", "double", "float", "System.out", "System.nanoTime", "System.currentTimeMillis", "Thread", "Random",
        "->", "::", "@", "protected", "native", "volatile", "Exact", "equals", "hashCode", "toString"};

    public static void main(String[] args) throws IOException, IllegalAccessException {
        face();
        text(Files.readString(Path.of("src/main/java/DebtNet.java")));
        room();
        Check.end("RulesTest");
    }

    private static void face() throws IllegalAccessException {
        Check.part("the face");
        Set<String> due = new TreeSet<>();
        Matcher each = Pattern.compile("(int|long) \\w+\\([^)]*\\)").matcher(FACE);
        while (each.find()) {
            due.add("public " + each.group());
        }
        Set<String> shown = new TreeSet<>();
        Set<String> names = new TreeSet<>();
        for (Method one : DebtNet.class.getDeclaredMethods()) {
            if (!Modifier.isPrivate(one.getModifiers())) {
                shown.add(one.toString().replace("DebtNet.", ""));
                names.add(one.getName());
            }
        }
        Check.due("the methods", shown.toString(), due.toString());
        Map<String, Integer> constants = new TreeMap<>();
        for (Field one : DebtNet.class.getDeclaredFields()) {
            if (!Modifier.isPrivate(one.getModifiers())) {
                constants.put(one.getName(), one.getInt(null));
            } else if (Modifier.isStatic(one.getModifiers())) {
                Check.due(one + " is final", Modifier.isFinal(one.getModifiers()) ? 1 : 0, 1);
            }
        }
        Check.due("the constants", constants.toString(), new TreeMap<>(CONSTANTS).toString());
        Constructor<?>[] constructors = DebtNet.class.getDeclaredConstructors();
        Check.due("the constructors", constructors.length, 1);
        Check.due("the constructor", constructors[0].toString(), "public DebtNet()");
        Check.due("the class", DebtNet.class.toString() + DebtNet.class.getModifiers(), "class DebtNet17");
        hidden(names);
    }

    private static void hidden(Set<String> names) {
        for (Method one : DebtNet.class.getDeclaredMethods()) {
            if (Modifier.isPrivate(one.getModifiers())) {
                Check.due(one + " bears a public name", names.contains(one.getName()) ? 1 : 0, 0);
            }
        }
        Class<?>[] inside = DebtNet.class.getDeclaredClasses();
        Check.due("at most twelve classes", inside.length < 12 ? 1 : 0, 1);
        for (Class<?> one : inside) {
            int modifiers = one.getModifiers();
            Check.due(one + " is static", Modifier.isStatic(modifiers) ? 1 : 0, 1);
            Check.due(one + " is shown", Modifier.isPublic(modifiers) || Modifier.isProtected(modifiers) ? 1 : 0, 0);
            for (Method method : one.getDeclaredMethods()) {
                Check.due(method + " bears a public name", names.contains(method.getName()) ? 1 : 0, 0);
            }
        }
    }

    private static void text(String text) {
        Check.part("the text");
        String code = text.replaceAll("(?s)/\\*.*?\\*/", "").replaceAll("//[^\n]*", "");
        for (String word : FORBIDDEN) {
            boolean letters = Character.isLetter(word.charAt(0));
            String pattern = letters ? "\\b" + Pattern.quote(word) + "\\b" : Pattern.quote(word);
            Check.due("'" + word + "'", Pattern.compile(pattern).matcher(code).find() ? 1 : 0, 0);
        }
        for (int i = 0; i < text.length(); i++) {
            if (text.charAt(i) > 126) {
                Check.due("a sign beyond 126 at " + i, text.charAt(i), ' ');
            }
        }
        int length = 0;
        for (String line : code.split("\n")) {
            length = line.matches(" {4,8}[\\w\\[\\]<> ]+\\(.*\\{") ? 0 : length + 1;
            Check.due("a method of sixty lines", length > 60 && !line.isBlank() ? 1 : 0, 0);
        }
    }

    /** Objects are made for nets and books alone: the dearest calls make none, 512 times. */
    private static void room() {
        Check.part("the room");
        DebtNet x = Settings.made(Settings.net(6, "111100010100111"));
        x.own(0);
        x.book(0);
        long least = Long.MAX_VALUE;
        for (int round = 0; round < 5; round++) {
            long before = allocated();
            for (int call = 0; call < 512; call++) {
                x.gonality(0);
                x.rank(0);
                x.why(0);
                x.factor(0, 3);
                x.resist(0, 1, 4, true);
                x.order(1);
                x.how(0, 0);
                x.reduce(0, call % 6);
                x.fall(1, 2);
                x.sum(0, 1, true);
                x.drop();
            }
            least = Math.min(least, allocated() - before);
        }
        // 512 books of 6 numbers, each with its heads, and what the measuring itself takes.
        Check.due("bytes of 5632 calls, " + least + ", are few", least < 200000 ? 1 : 0, 1);
    }

    private static long allocated() {
        return ((com.sun.management.ThreadMXBean) java.lang.management.ManagementFactory.getThreadMXBean())
                .getThreadAllocatedBytes(Thread.currentThread().getId());
    }
}

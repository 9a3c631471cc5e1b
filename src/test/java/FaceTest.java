import java.io.IOException;
import java.lang.reflect.Constructor;
import java.lang.reflect.Field;
import java.lang.reflect.Method;
import java.lang.reflect.Modifier;
import java.nio.file.Files;
import java.nio.file.Path;
import java.util.Map;
import java.util.Set;
import java.util.TreeMap;
import java.util.TreeSet;
import java.util.regex.Matcher;
import java.util.regex.Pattern;

/** The class has the members that "The public face" in the document has, and no other that isn't private. */
public final class FaceTest {
    private static final Pattern FACE = Pattern.compile("(?s)\n## The public face\n+```java\n(.*?)```");
    private static final Pattern CONSTANT = Pattern.compile("public static final int (\\w+) = (-?\\d+);");
    private static final Pattern TOLD = Pattern.compile("(?m)^(?:The constants: )?`([A-Z]+) = (-?\\d+)`: ");
    private static final Pattern METHOD = Pattern.compile("public (int|long) (\\w+)\\((.*)\\);");

    private final Map<String, Integer> constants = new TreeMap<>();
    private final Set<String> methods = new TreeSet<>();
    private final Set<String> names = new TreeSet<>();
    private int constructors = 0;

    public static void main(String[] args) throws IOException, IllegalAccessException {
        FaceTest due = new FaceTest();
        due.read(Files.readString(Path.of("../shared/DOC.md")));
        due.compareFields();
        due.compareMethods();
        due.compareClass();
        due.compareInside();
        Check.end("FaceTest");
    }

    private void read(String document) {
        Check.part("the document's face");
        Matcher face = FACE.matcher(document);
        Check.due("there is a face", face.find() ? 1 : 0, 1);
        String[] lines = face.group(1).trim().split("\\s*\n\\s*");
        for (int i = 1; i < lines.length - 1; i++) {
            readMember(lines[i]);
        }
        Check.due("its class", lines[0] + " .. " + lines[lines.length - 1], "public final class DebtNet { .. }");
        Check.due("its constants", constants.size(), 9);
        Check.due("its constructor", constructors, 1);
        Check.due("its methods, a promise each but for the first", methods.size(), 34);
        Map<String, Integer> told = new TreeMap<>();
        Matcher one = TOLD.matcher(document);
        while (one.find()) {
            told.put(one.group(1), Integer.parseInt(one.group(2)));
        }
        Check.due("the constants of the terms", told.toString(), constants.toString());
    }

    private void readMember(String line) {
        Matcher constant = CONSTANT.matcher(line);
        Matcher method = METHOD.matcher(line);
        if (constant.matches()) {
            constants.put(constant.group(1), Integer.parseInt(constant.group(2)));
        } else if (method.matches()) {
            String types = method.group(3).replaceAll(" \\w+(, |$)", "$1").replace(" ", "");
            methods.add("public " + method.group(1) + " " + method.group(2) + "(" + types + ")");
            names.add(method.group(2));
        } else {
            Check.due("a line that is no constant and no method", line, "public DebtNet();");
            constructors++;
        }
    }

    private void compareFields() throws IllegalAccessException {
        Check.part("the constants");
        int open = Modifier.PUBLIC | Modifier.STATIC | Modifier.FINAL;
        Map<String, Integer> shown = new TreeMap<>();
        for (Field one : DebtNet.class.getDeclaredFields()) {
            if (!Modifier.isPrivate(one.getModifiers())) {
                boolean constant = one.getModifiers() == open && one.getType() == int.class;
                Check.due(one + " is a constant", constant ? 1 : 0, 1);
                shown.put(one.getName(), constant ? one.getInt(null) : 0);
            }
        }
        Check.due("their values", shown.toString(), constants.toString());
    }

    private void compareMethods() {
        Check.part("the methods");
        Set<String> shown = new TreeSet<>();
        for (Method one : DebtNet.class.getDeclaredMethods()) {
            if (!Modifier.isPrivate(one.getModifiers())) {
                shown.add(one.toString().replace("DebtNet.", ""));
            } else {
                Check.due(one + " bears a public name", names.contains(one.getName()) ? 1 : 0, 0);
            }
        }
        Check.due("all that are shown", shown.toString(), methods.toString());
    }

    private void compareClass() {
        Check.part("the class");
        Check.due("its modifiers", Modifier.toString(DebtNet.class.getModifiers()), "public final");
        Check.due("its package", DebtNet.class.getPackageName(), "");
        Check.due("what it extends", DebtNet.class.getSuperclass().getName(), "java.lang.Object");
        Check.due("what it implements", DebtNet.class.getInterfaces().length, 0);
        Constructor<?>[] made = DebtNet.class.getDeclaredConstructors();
        Check.due("its constructors", made.length, 1);
        Check.due("its constructor", made[0].toString(), "public DebtNet()");
    }

    private void compareInside() {
        Check.part("the classes inside");
        for (Class<?> one : DebtNet.class.getDeclaredClasses()) {
            int modifiers = one.getModifiers();
            Check.due(one + " is static", Modifier.isStatic(modifiers) ? 1 : 0, 1);
            Check.due(one + " is shown", Modifier.isPublic(modifiers) || Modifier.isProtected(modifiers) ? 1 : 0, 0);
            for (Method method : one.getDeclaredMethods()) {
                boolean twice = Modifier.isPrivate(method.getModifiers()) && names.contains(method.getName());
                Check.due(method + " bears a public name", twice ? 1 : 0, 0);
            }
        }
    }
}

import java.io.IOException;
import java.lang.management.ManagementFactory;
import java.lang.reflect.Field;
import java.lang.reflect.Member;
import java.lang.reflect.Method;
import java.lang.reflect.Modifier;
import java.nio.file.Files;
import java.nio.file.Path;
import java.util.Arrays;
import java.util.Set;
import java.util.TreeSet;
import java.util.regex.Matcher;
import java.util.regex.Pattern;
import java.util.stream.Collectors;

/** The public face, rules of the language that can be seen from outside, and the room that calls take. */
public final class FaceTest {
    private static final String[] FACE = {"write(int, int, int)", "giveBack(int, int)", "pin(int, int, boolean)",
        "error(int)", "hardError(int)", "start()", "pass(int)", "set(int, int)", "type(char)", "clearText()",
        "perform()", "stopped(int)", "undo()", "keep()", "restore()", "page(int, int, int)", "program(int, int)",
        "cell(int, int)", "list(int)", "next()", "reason(int)", "errorsLeft(int)", "worst()", "ifStarted()",
        "count(int)"};
    private static final int[] EXTREMES = {Integer.MIN_VALUE, -101, -100, -41, -6, -5, -4, -3, -2, -1, 0, 1, 2, 3, 4,
        5, 9, 10, 11, 12, 19, 20, 21, 39, 40, 41, 49, 50, 60, 99, 100, 9999, 10000, Integer.MAX_VALUE};

    private static final Due due = new Due();

    public static void main(String[] args) throws IOException {
        membersAreThoseOfTheDocument();
        constants();
        noForbiddenWords();
        methodsAreShort();
        callsTakeNoRoom();
        wrongArgumentsChangeNothing();
        due.end();
    }

    private static void membersAreThoseOfTheDocument() {
        Set<String> seen = new TreeSet<>();
        for (Method method : RetiredCells.class.getDeclaredMethods()) {
            if (!Modifier.isPrivate(method.getModifiers())) {
                String parameters = Arrays.stream(method.getParameterTypes()).map(Class::getName)
                    .collect(Collectors.joining(", "));
                seen.add(method.getName() + "(" + parameters + ")");
                due.is("returns int: " + method, method.getReturnType() == int.class ? 1 : 0, 1);
                due.is("public, not static: " + method, method.getModifiers(), Modifier.PUBLIC);
            }
        }
        Set<String> names = new TreeSet<>(Arrays.asList(FACE));
        if (!seen.equals(names)) {
            System.out.println("methods: " + seen);
        }
        due.is("the methods of the face", seen.equals(names) ? 1 : 0, 1);
        Set<String> plainNames = names.stream().map(n -> n.substring(0, n.indexOf('('))).collect(Collectors.toSet());
        for (Method method : RetiredCells.class.getDeclaredMethods()) {
            if (Modifier.isPrivate(method.getModifiers())) {
                due.is("a name of its own: " + method, plainNames.contains(method.getName()) ? 1 : 0, 0);
            }
        }
        due.is("constructors", RetiredCells.class.getDeclaredConstructors().length, 1);
        due.is("class", RetiredCells.class.getModifiers(), Modifier.PUBLIC | Modifier.FINAL);
        for (Class<?> inner : RetiredCells.class.getDeclaredClasses()) {
            due.is("static: " + inner, inner.getModifiers() & Modifier.STATIC, Modifier.STATIC);
            due.is("not public: " + inner, inner.getModifiers() & (Modifier.PUBLIC | Modifier.PROTECTED), 0);
            due.is("fields of " + inner, ownFields(inner) <= 20 ? 1 : 0, 1);
        }
        due.is("classes inside", RetiredCells.class.getDeclaredClasses().length <= 12 ? 1 : 0, 1);
    }

    private static long ownFields(Class<?> some) {
        return Arrays.stream(some.getDeclaredFields()).filter(f -> !Modifier.isStatic(f.getModifiers())).count();
    }

    private static void constants() {
        Set<String> seen = new TreeSet<>();
        for (Field field : RetiredCells.class.getDeclaredFields()) {
            if (!Modifier.isPrivate(field.getModifiers())) {
                seen.add(field.getName());
                due.is("constant " + field, field.getModifiers(),
                    Modifier.PUBLIC | Modifier.STATIC | Modifier.FINAL);
            } else if (Modifier.isStatic(field.getModifiers())) {
                due.is("final " + field, field.getModifiers() & Modifier.FINAL, Modifier.FINAL);
            }
        }
        due.is("five constants", seen.size(), 5);
        due.is("UNKNOWN", RetiredCells.UNKNOWN, -1);
        due.is("BAD_VALUE", RetiredCells.BAD_VALUE, -2);
        due.is("FULL", RetiredCells.FULL, -3);
        due.is("NOT_POSSIBLE", RetiredCells.NOT_POSSIBLE, -4);
        due.is("NONE", RetiredCells.NONE, -5);
    }

    private static String source() throws IOException {
        return Files.readString(Path.of("src/main/java/RetiredCells.java"));
    }

    private static void noForbiddenWords() throws IOException {
        String code = source().replaceAll("(?s)/\\*.*?\\*/", "").replaceAll("//[^\n]*", "");
        String words = "\\b(throw|throws|try|catch|finally|synchronized|assert|import|package|instanceof|protected"
            + "|equals|hashCode|toString|System\\.(?!arraycopy)\\w+|Thread|Random)\\b|->|::|@";
        Matcher matcher = Pattern.compile(words).matcher(code);
        while (matcher.find()) {
            due.is("forbidden '" + matcher.group() + "'", 1, 0);
        }
        due.is("signs 1 to 127", source().chars().filter(c -> c < 1 || c > 127).count(), 0);
    }

    private static void methodsAreShort() throws IOException {
        int begun = -1;
        String[] lines = source().split("\n");
        for (int line = 0; line < lines.length; line++) {
            if (lines[line].matches(" {4}( {4})?[\\w\\[\\] ]+\\(.*\\) \\{")) {
                begun = line;
            } else if (begun >= 0 && lines[line].matches(" {4}( {4})?\\}")) {
                due.is("lines of" + lines[begun], line - begun <= 60 ? 1 : 0, 1);
                begun = -1;
            }
        }
    }

    private static void callsTakeNoRoom() {
        com.sun.management.ThreadMXBean threads =
            (com.sun.management.ThreadMXBean) ManagementFactory.getThreadMXBean();
        long self = Thread.currentThread().getId();
        long first = threads.getThreadAllocatedBytes(self);
        RetiredCells x = new RetiredCells();
        long made = threads.getThreadAllocatedBytes(self);
        for (int i = 0; i < 512; i++) {
            x.write(i % 5, i % 10, i);
            x.error(i % 40);
            x.type("w00=1;e3;p00".charAt(i % 12));
            x.perform();
            x.keep();
            x.undo();
            x.restore();
            x.errorsLeft(i % 40);
            x.ifStarted();
        }
        long used = threads.getThreadAllocatedBytes(self);
        due.is("an object takes little room: " + (made - first), made - first < 30000 ? 1 : 0, 1);
        due.is("calls make nothing: " + (used - made), used - made < 2000 ? 1 : 0, 1);
    }

    private static int told(RetiredCells x) {
        return Arrays.hashCode(Runs.told(x));
    }

    /** Nothing is thrown, whatever the arguments are, and an error or NONE changes nothing. */
    private static void wrongArgumentsChangeNothing() {
        RetiredCells x = new RetiredCells();
        x.write(0, 0, 1);
        x.hardError(3);
        for (int a : EXTREMES) {
            for (int b : EXTREMES) {
                int was = told(x);
                for (int c : EXTREMES) {
                    unchanged(x, was, x.write(a, b, c));
                    was = told(x);
                    x.page(a, b, c);
                }
                unchanged(x, was, x.pin(a, b, true));
                was = told(x);
                unchanged(x, was, x.giveBack(a, b));
                was = told(x);
                unchanged(x, was, x.set(a, b));
                x.program(a, b);
                x.cell(a, b);
            }
            int was = told(x);
            unchanged(x, was, x.error(a));
            was = told(x);
            unchanged(x, was, x.hardError(a));
            was = told(x);
            unchanged(x, was, x.pass(a));
            x.stopped(a);
            x.list(a);
            x.reason(a);
            x.errorsLeft(a);
            x.count(a);
        }
    }

    private static void unchanged(RetiredCells x, int was, int answer) {
        if (answer < 0) {
            due.is("told behind an error or NONE", told(x) == was ? 1 : 0, 1);
        }
    }
}

import java.io.IOException;
import java.lang.management.ManagementFactory;
import java.lang.reflect.Constructor;
import java.lang.reflect.Field;
import java.lang.reflect.Method;
import java.lang.reflect.Modifier;
import java.nio.file.Files;
import java.nio.file.Path;
import java.util.Arrays;
import java.util.HashSet;
import java.util.List;
import java.util.Set;
import java.util.TreeSet;
import java.util.regex.Matcher;
import java.util.regex.Pattern;

/** The public face, and the rules of LANGUAGE.md that can be seen from outside or in the text. */
final class LanguageTests {
    private static final List<String> FACE = List.of(
            "int write(int)", "int wipe()", "int fault()", "int gorge()", "int about(int)", "int walker(int, int)",
            "int minute(int)", "int change(int)", "int rest()", "int undo()",
            "int left(int, long)", "int firstTurn(int, long)", "int order(int, long, int)",
            "int share(int, int, long, boolean)", "int bears(int)",
            "int still(int, int, int, int, boolean)", "int pebbles(int, int, boolean)", "int tell(int, boolean)",
            "int untell()", "int letGo(boolean)", "int link(int, int, int, boolean)", "long seed(long)",
            "int gorges(int)", "int keep(int)", "int again(int)");
    private static final List<String> LIBRARY = List.of("System.arraycopy", "Math.abs", "Math.max", "Integer.bitCount");
    private static final int LONGEST_METHOD = 60;
    private static final int MOST_PARAMETERS = 7;
    private static final int MOST_FIELDS = 20;
    private static final int MOST_CLASSES = 12;

    private LanguageTests() {
    }

    static void run() {
        Report.test("the public face: constants", LanguageTests::constants);
        Report.test("the public face: methods", LanguageTests::methods);
        Report.test("language: classes, fields, names", LanguageTests::classes);
        Report.test("language: words and library", LanguageTests::words);
        Report.test("language: short methods", LanguageTests::shortMethods);
        Report.test("room: no call makes an object", LanguageTests::noCallMakesAnObject);
    }

    private static void constants() {
        Report.due("UNKNOWN", GorgeRow.UNKNOWN, -1);
        Report.due("BAD", GorgeRow.BAD, -2);
        Report.due("LATE", GorgeRow.LATE, -3);
        Report.due("FULL", GorgeRow.FULL, -4);
        Report.due("NONE", GorgeRow.NONE, -9);
        Set<String> names = new TreeSet<>();
        for (Field field : GorgeRow.class.getDeclaredFields()) {
            if (!Modifier.isPrivate(field.getModifiers())) {
                names.add(Modifier.toString(field.getModifiers()) + " " + field.getType() + " " + field.getName());
            }
        }
        Set<String> due = new TreeSet<>();
        for (String name : List.of("UNKNOWN", "BAD", "LATE", "FULL", "NONE")) {
            due.add("public static final int " + name);
        }
        Report.holds("fields " + names, names.equals(due));
    }

    private static void methods() {
        Report.holds("public and final", Modifier.toString(GorgeRow.class.getModifiers()).equals("public final"));
        Set<String> names = new TreeSet<>();
        for (Method method : GorgeRow.class.getDeclaredMethods()) {
            if (!Modifier.isPrivate(method.getModifiers())) {
                Report.holds(method.getName() + " is public alone", method.getModifiers() == Modifier.PUBLIC);
                String types = Arrays.toString(method.getParameterTypes()).replace('[', '(').replace(']', ')');
                names.add(method.getReturnType() + " " + method.getName() + types);
            }
        }
        Report.holds("methods " + names, names.equals(new TreeSet<>(FACE)));
        Constructor<?>[] constructors = GorgeRow.class.getDeclaredConstructors();
        Report.due("constructors", constructors.length, 1);
        Report.due("its parameters", constructors[0].getParameterCount(), 0);
        Report.due("its modifiers", constructors[0].getModifiers(), Modifier.PUBLIC);
    }

    private static void classes() {
        Set<String> faceNames = new HashSet<>();
        for (String method : FACE) {
            faceNames.add(method.substring(method.indexOf(' ') + 1, method.indexOf('(')));
        }
        Class<?>[] inside = GorgeRow.class.getDeclaredClasses();
        Report.holds("few classes", inside.length < MOST_CLASSES);
        fewFields(GorgeRow.class);
        for (Method method : GorgeRow.class.getDeclaredMethods()) {
            Report.holds(method.getName() + " is of the face or named otherwise",
                    Modifier.isPublic(method.getModifiers()) || !faceNames.contains(method.getName()));
        }
        for (Class<?> each : inside) {
            int modifiers = each.getModifiers();
            Report.holds(each.getName() + " is private and static",
                    Modifier.isStatic(modifiers) && Modifier.isPrivate(modifiers));
            fewFields(each);
            for (Method method : each.getDeclaredMethods()) {
                Report.holds(method.getName() + " is not of the face", !faceNames.contains(method.getName()));
            }
        }
    }

    private static void fewFields(Class<?> of) {
        int count = 0;
        for (Field field : of.getDeclaredFields()) {
            boolean isStatic = Modifier.isStatic(field.getModifiers());
            count += isStatic ? 0 : 1;
            Report.holds(field.getName() + " is final or not static",
                    !isStatic || Modifier.isFinal(field.getModifiers()));
        }
        Report.holds(of.getName() + " has few fields", count <= MOST_FIELDS);
    }

    private static void words() {
        String source = source();
        Matcher banned = Pattern.compile("\\b(package|import|throw|throws|try|catch|finally|synchronized|assert"
                + "|equals|hashCode|toString|float|double|var)\\b|->|::|@|Exact|static\\s*\\{").matcher(source);
        while (banned.find()) {
            Report.wrong("not in this language: " + banned.group());
        }
        Matcher library = Pattern.compile("\\b(System|Math|Integer|Long|String|StringBuilder|Arrays|List|ArrayList"
                + "|Object|Thread|Character|Byte|Boolean|Double)\\b(\\.\\w+)?").matcher(source);
        while (library.find()) {
            Report.holds("it uses " + library.group(), LIBRARY.contains(library.group()));
        }
    }

    private static void shortMethods() {
        for (Class<?> each : GorgeRow.class.getDeclaredClasses()) {
            fewParameters(each);
        }
        fewParameters(GorgeRow.class);
        int start = 0;
        int count = 0;
        String indent = null;
        String[] lines = source().split("\n");
        for (int i = 0; i < lines.length; i++) {
            Matcher head = Pattern.compile("( {4}| {8})\\S.*\\) \\{").matcher(lines[i]);
            if (indent == null && head.matches()) {
                indent = head.group(1);
                start = i;
            } else if (indent != null && lines[i].equals(indent + "}")) {
                count++;
                Report.holds("short: " + lines[start].trim(), i - start + 1 <= LONGEST_METHOD);
                indent = null;
            }
        }
        Report.holds("methods are found: " + count, count > FACE.size());
    }

    private static void fewParameters(Class<?> of) {
        for (Method method : of.getDeclaredMethods()) {
            Report.holds(method.getName() + " takes few parameters", method.getParameterCount() <= MOST_PARAMETERS);
        }
    }

    /** Without comments, so that a word of theirs is not taken for one of the program. */
    private static String source() {
        try {
            String text = Files.readString(Path.of("src/main/java/GorgeRow.java"));
            return text.replaceAll("(?s)/\\*.*?\\*/", "").replaceAll("//[^\n]*", "");
        } catch (IOException e) {
            throw new IllegalStateException("to be run from the project's folder: " + e);
        }
    }

    /** All calls of one run live in one room, so what each makes must be counted: it is nothing. */
    private static void noCallMakesAnObject() {
        if (!(ManagementFactory.getThreadMXBean() instanceof com.sun.management.ThreadMXBean)) {
            return;
        }
        GorgeRow warm = Rows.of("G92W20W31W42W53W10");
        long answers = everyCall(warm);
        GorgeRow row = Rows.of("G92W20W31W42W53W10");
        long before = allocatedBytes();
        answers += everyCall(row);
        long made = allocatedBytes() - before;
        // The smallest object has 16 bytes; asking for the count itself may make a few.
        Report.holds("no objects by 300 calls, not " + made + " bytes", made < 300 * 16 && answers != 0);
    }

    private static long allocatedBytes() {
        com.sun.management.ThreadMXBean bean = (com.sun.management.ThreadMXBean) ManagementFactory.getThreadMXBean();
        return bean.getThreadAllocatedBytes(Thread.currentThread().getId());
    }

    private static long everyCall(GorgeRow row) {
        long answers = 0;
        for (int k = 0; k < 10; k++) {
            answers += row.minute(k) + row.change(k % 4) + row.rest() + row.keep(k % 2);
            answers += row.left(3, 50210) + row.firstTurn(3, 50210) + row.order(5, 1502100000L, 0);
            answers += row.share(k % 5, 3, 50210, true) + row.bears(k % 5) + row.gorges(20);
            answers += row.still(4, k, 3, 4, true) + row.pebbles(5, 5 * k, true) + row.link(2, k, 6, false);
            answers += row.tell(k % 9, true) + row.letGo(true) + row.seed(k) + row.about(6) + row.walker(k % 5, 4);
            answers += row.untell() + row.undo() + row.again(k % 2) + row.write(71) + row.fault();
            answers += row.wipe() + row.gorge() + row.write(71) + row.write(57) + row.write(50) + row.gorge();
        }
        return answers;
    }
}

import java.lang.reflect.Constructor;
import java.lang.reflect.Field;
import java.lang.reflect.Method;
import java.lang.reflect.Modifier;
import java.nio.file.Files;
import java.nio.file.Path;
import java.util.ArrayList;
import java.util.List;
import java.util.Set;
import java.util.TreeSet;
import java.util.regex.Matcher;
import java.util.regex.Pattern;

/** The public face as the document shows it, line by line: names, types, parameters, and what a call may throw. */
public final class FaceTests {
    private static final String[] CONSTANTS = {
        "int NONE = -1;",
        "int CONTENT = 0, FOLDER = 1, VERSION = 2, TAG = 3;",
        "int LOOSE = 1, PACKED = 2, PROMISED = 4;",
    };

    /** What is thrown is told in short: Bounds, Argument, State, in the document's order. */
    private static final String[] CALLS = {
        "---- objects",
        "int put(int number) Argument State",
        "int clear()",
        "int content(int store) Bounds Argument State",
        "int folder(int store) Bounds Argument State",
        "int version(int store, int folder, int date, int one, int other) Bounds Argument State",
        "int tag(int store, int version) Bounds Argument State",
        "int told()",
        "int kind(int name) Bounds",
        "int length(int name) Bounds",
        "int part(int name, int place) Bounds",
        "int read(int store, int name, int place) Bounds State",
        "int where(int store, int name) Bounds",
        "---- disks and time",
        "int sync(int store) Bounds",
        "int unsynced(int store) Bounds",
        "int crash(int store, int deeds) Bounds Argument",
        "int tick(int ticks) Argument",
        "---- references",
        "int expect(int store, int ref, int old, int now) Bounds Argument",
        "boolean commit(int store) Bounds State",
        "int ref(int store, int ref) Bounds",
        "int logs(int store) Bounds",
        "boolean isWhole(int store, int name) Bounds",
        "boolean isShallow(int store, int name) Bounds",
        "---- walks and what is reached",
        "int replace(int store, int name, int by) Bounds Argument State",
        "int walk(int store, int want, int hide) Bounds Argument",
        "int walkAt(int place) Bounds",
        "int choose(int store, int name) Bounds Argument State",
        "int chosen(int store) Bounds",
        "int reach(int store, int name) Bounds",
        "int reachByRounds(int store, int name) Bounds",
        "---- packs and sweeping",
        "int pack(int store, int window, int depth) Bounds Argument State",
        "int packs(int store) Bounds",
        "int entries(int store, int pack) Bounds",
        "int size(int store, int pack) Bounds",
        "int base(int store, int pack, int place) Bounds",
        "boolean pin(int store, int name) Bounds",
        "int sweep(int store) Bounds",
        "---- the line",
        "boolean line()",
        "int fetch(int from, int ref, int limit, boolean isHalf) Bounds Argument State",
        "int push(int from, int ref) Bounds State",
        "---- what is spoiled and missing",
        "int spoil(int store, int name) Bounds State",
        "int missing(int store) Bounds",
        "int missingAt(int store, int place) Bounds",
        "int mend(int store) Bounds State",
    };

    private static int passed = 0;
    private static int failed = 0;

    private FaceTests() {
    }

    public static void main(String[] args) throws Exception {
        String text = Files.readString(Path.of("src/main/java/PackSpring.java")).replaceAll("\\s+", " ");
        frame(text);
        constants(text);
        calls(text);
        report("there are no other public members", others().isEmpty(), others().toString());
        System.out.println(passed + " passed, " + failed + " failed");
        if (failed != 0) {
            System.exit(1);
        }
    }

    private static void report(String what, boolean holds, String instead) {
        if (holds) {
            passed++;
        } else {
            failed++;
            System.out.println(what + ": " + instead);
        }
    }

    private static void frame(String text) {
        report("there is no package line", PackSpring.class.getPackageName().isEmpty(), "there is one");
        report("the class is public and final", text.contains(" public final class PackSpring { "), "it is not");
        report("it comes from no other class", PackSpring.class.getSuperclass() == Object.class
                && PackSpring.class.getInterfaces().length == 0, "it does");
        Constructor<?>[] all = PackSpring.class.getDeclaredConstructors();
        report("there is one constructor, public, that throws nothing", all.length == 1
                && all[0].getParameterCount() == 0 && Modifier.isPublic(all[0].getModifiers())
                && all[0].getExceptionTypes().length == 0 && text.contains(" public PackSpring() { "), "there is not");
    }

    private static void constants(String text) throws Exception {
        for (String line : CONSTANTS) {
            report("the text has " + line, text.contains(" public static final " + line), "it has not");
            for (String one : line.substring(4, line.length() - 1).split(", ")) {
                String name = one.substring(0, one.indexOf(' '));
                int due = Integer.parseInt(one.substring(one.lastIndexOf(' ') + 1));
                Field field = PackSpring.class.getField(name);
                report(name, field.getType() == int.class && field.getInt(null) == due, "it is " + field.get(null));
            }
        }
    }

    private static void calls(String text) {
        int from = text.indexOf("public PackSpring()");
        for (String line : CALLS) {
            String due = line.startsWith("----") ? " // " + line + " public " : " public " + spelled(line) + " { ";
            int at = text.indexOf(due, from);
            report("in its order the text has" + due, at > 0, "it has not");
            from = at > 0 ? at : from;
            if (!line.startsWith("----")) {
                report(line, isDeclared(line), "it is not declared so");
            }
        }
    }

    /** The line with its exceptions by their whole names. */
    private static String spelled(String line) {
        int end = line.indexOf(')') + 1;
        List<String> thrown = exceptions(line);
        return line.substring(0, end) + (thrown.isEmpty() ? "" : " throws " + String.join(", ", thrown));
    }

    private static List<String> exceptions(String line) {
        List<String> whole = new ArrayList<>();
        Matcher found = Pattern.compile("Bounds|Argument|State").matcher(line.substring(line.indexOf(')')));
        while (found.find()) {
            String one = found.group();
            whole.add((one.equals("Bounds") ? "IndexOutOf" : "Illegal") + one + "Exception");
        }
        return whole;
    }

    private static boolean isDeclared(String line) {
        for (Method method : PackSpring.class.getDeclaredMethods()) {
            if (!method.getName().equals(nameOf(line)) || !Modifier.isPublic(method.getModifiers())) {
                continue;
            }
            List<String> thrown = new ArrayList<>();
            for (Class<?> type : method.getExceptionTypes()) {
                thrown.add(type.getSimpleName());
            }
            return !Modifier.isStatic(method.getModifiers()) && typesOf(method).equals(typesIn(line))
                    && thrown.equals(exceptions(line));
        }
        return false;
    }

    private static String nameOf(String line) {
        return line.substring(line.indexOf(' ') + 1, line.indexOf('('));
    }

    private static List<String> typesOf(Method method) {
        List<String> types = new ArrayList<>(List.of(method.getReturnType().getName()));
        for (Class<?> type : method.getParameterTypes()) {
            types.add(type.getName());
        }
        return types;
    }

    private static List<String> typesIn(String line) {
        List<String> types = new ArrayList<>(List.of(line.substring(0, line.indexOf(' '))));
        for (String one : line.substring(line.indexOf('(') + 1, line.indexOf(')')).split(", ")) {
            if (!one.isEmpty()) {
                types.add(one.substring(0, one.indexOf(' ')));
            }
        }
        return types;
    }

    private static Set<String> others() {
        Set<String> others = new TreeSet<>();
        for (Method method : PackSpring.class.getMethods()) {
            others.add(method.getDeclaringClass() == PackSpring.class ? method.getName() : "");
        }
        for (Field field : PackSpring.class.getFields()) {
            others.add(field.getName());
        }
        others.remove("");
        for (String line : CALLS) {
            others.remove(line.startsWith("----") ? "" : nameOf(line));
        }
        for (String name : String.join(" ", CONSTANTS).split("\\W+")) {
            others.remove(name);
        }
        return others;
    }
}

import java.lang.reflect.Array;
import java.lang.reflect.Field;
import java.lang.reflect.Method;
import java.lang.reflect.Modifier;
import java.nio.file.Files;
import java.nio.file.Path;
import java.util.ArrayList;
import java.util.Arrays;
import java.util.Collections;
import java.util.IdentityHashMap;
import java.util.List;
import java.util.Set;
import java.util.TreeSet;
import java.util.regex.Matcher;
import java.util.regex.Pattern;

/** Looks whether the class keeps to the rules of LANGUAGE.md that can be seen from outside or in its text. */
public final class RulesTests {
    private static int kept = 0;
    private static int wrong = 0;

    public static void main(String[] args) throws Exception {
        face();
        inside();
        room();
        text(Files.readString(Path.of("src/main/java/PackSpring.java")));
        System.out.println(kept + " passed, " + wrong + " failed");
        if (wrong != 0) {
            System.exit(1);
        }
    }

    private static void rule(int number, boolean isKept, String what) {
        if (isKept) {
            kept++;
        } else {
            wrong++;
            System.out.println("rule " + number + ": " + what);
        }
    }

    private static void face() {
        for (Method method : PackSpring.class.getDeclaredMethods()) {
            int shown = method.getModifiers();
            rule(1, Modifier.isPublic(shown) || Modifier.isPrivate(shown), method + " is not private");
        }
        for (Field field : PackSpring.class.getDeclaredFields()) {
            int shown = field.getModifiers();
            rule(1, Modifier.isPublic(shown) || Modifier.isPrivate(shown), field + " is not private");
        }
        for (Class<?> type : PackSpring.class.getDeclaredClasses()) {
            int shown = type.getModifiers();
            rule(1, !Modifier.isPublic(shown) && !Modifier.isProtected(shown), type + " is not private");
        }
    }

    private static void inside() {
        Set<String> publics = new TreeSet<>();
        for (Method method : PackSpring.class.getDeclaredMethods()) {
            if (Modifier.isPublic(method.getModifiers())) {
                publics.add(method.getName());
            }
        }
        List<Class<?>> all = new ArrayList<>(List.of(PackSpring.class));
        all.addAll(Arrays.asList(PackSpring.class.getDeclaredClasses()));
        rule(11, all.size() <= 12, all.size() + " classes");
        for (Class<?> type : all) {
            rule(2, type == PackSpring.class || Modifier.isStatic(type.getModifiers()), type + " is not static");
            int fields = 0;
            for (Field field : type.getDeclaredFields()) {
                boolean isStatic = Modifier.isStatic(field.getModifiers());
                fields += isStatic ? 0 : 1;
                rule(5, !isStatic || Modifier.isFinal(field.getModifiers()), field + " is static and not final");
            }
            rule(11, fields <= 20, type + " has " + fields + " fields");
            for (Method method : type.getDeclaredMethods()) {
                boolean isOfFace = type == PackSpring.class && Modifier.isPublic(method.getModifiers());
                rule(1, isOfFace || !publics.contains(method.getName()), method + " bears the name of a public one");
                rule(11, method.getParameterCount() <= 7, method + " has too many parameters");
            }
        }
    }

    /** A run that makes all that there can be: every pack, and every NOTE that is not synced, in both stores. */
    private static PackSpring fullRun() {
        PackSpring x = new PackSpring();
        int folder = x.folder(0);
        x.folder(1);
        int one = x.version(0, folder, 1, PackSpring.NONE, PackSpring.NONE);
        int other = x.version(1, folder, 2, PackSpring.NONE, PackSpring.NONE);
        for (int store = 0; store < 2; store++) {
            for (int k = 0; k < 20; k++) {
                x.put(20 * store + k);
                x.content(store);
                x.pack(store, 8, 8);
            }
            x.sync(store);
            for (int k = 0; k < 30; k++) {
                x.replace(store, store == 0 ? other : one, store == 0 ? one : other);
            }
            if (x.packs(store) != 20 || x.unsynced(store) != 30) {
                throw new AssertionError("the run makes less than it should");
            }
        }
        return x;
    }

    /** What a run makes is kept, so what can be come to from it tells how much that is; only exceptions are not. */
    private static void room() throws Exception {
        List<Object> made = new ArrayList<>();
        Set<Object> known = Collections.newSetFromMap(new IdentityHashMap<>());
        long cells = 0;
        note(fullRun(), made, known);
        for (int k = 0; k < made.size(); k++) {
            Object one = made.get(k);
            boolean isArray = one.getClass().isArray();
            int size = isArray ? Array.getLength(one) : 0;
            for (int at = 0; at < size && !one.getClass().getComponentType().isPrimitive(); at++) {
                note(Array.get(one, at), made, known);
            }
            for (Field field : isArray ? new Field[0] : one.getClass().getDeclaredFields()) {
                if (!Modifier.isStatic(field.getModifiers())) {
                    field.setAccessible(true);
                    size++;
                    note(field.getType().isPrimitive() ? null : field.get(one), made, known);
                }
            }
            cells += size;
        }
        rule(12, made.size() <= 1000, "a run makes " + made.size() + " objects and arrays");
        rule(12, cells <= 100_000, "a run makes " + cells + " fields and elements");
    }

    private static void note(Object one, List<Object> made, Set<Object> known) {
        if (one != null && known.add(one)) {
            made.add(one);
        }
    }

    private static void text(String source) {
        rule(4, source.chars().allMatch(sign -> sign == '\n' || (sign >= 32 && sign < 127)), "signs beyond 127, or tabs");
        String code = source.replaceAll("(?s)/\\*.*?\\*/", "").replaceAll("//[^\n]*", "");
        String noTexts = code.replaceAll("\"[^\"]*\"", "\"\"");
        String[] banned = {"->", "::", "synchronized", "assert ", "finally", "System\\.", "Random", "Thread", "static \\{",
            "instanceof", "try \\{", "package ", "Exact", "\\.values\\(\\)", "Object ", "\\[\\]\\[\\]", "List<", "\"\" \\+"};
        for (String word : banned) {
            Matcher found = Pattern.compile(word).matcher(noTexts);
            rule(4, !found.find(), "the code has " + word);
        }
        Matcher imports = Pattern.compile("import ([^;]+);").matcher(noTexts);
        while (imports.find()) {
            rule(4, imports.group(1).equals("java.util.Arrays"), "imports " + imports.group(1));
        }
        Matcher filled = Pattern.compile("Arrays\\.(\\w+)").matcher(noTexts);
        while (filled.find()) {
            rule(4, filled.group(1).equals("fill"), "calls Arrays." + filled.group(1));
        }
        Matcher thrown = Pattern.compile("throw (?!new (IndexOutOfBounds|IllegalArgument|IllegalState)Exception\\(\"\"\\);)")
                .matcher(noTexts);
        rule(6, !thrown.find(), "throws something else");
        lengths(source.split("\n"));
    }

    private static void lengths(String[] lines) {
        int start = -1;
        for (int k = 0; k < lines.length; k++) {
            boolean isOpening = lines[k].matches(" {4}( {4})?[\\w\\[\\]]+.*\\).*\\{") || lines[k].matches(" {12}throws .*\\{");
            if (isOpening && !lines[k].contains(" class ")) {
                start = k;
            }
            if (start >= 0 && lines[k].matches(" {4}( {4})?\\}")) {
                rule(11, k - start < 60, "a method of " + (k - start + 1) + " lines ends at line " + (k + 1));
                start = -1;
            }
        }
    }
}

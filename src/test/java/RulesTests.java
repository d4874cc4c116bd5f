import java.lang.reflect.Constructor;
import java.lang.reflect.Field;
import java.lang.reflect.Method;
import java.lang.reflect.Modifier;
import java.nio.file.Files;
import java.nio.file.Path;
import java.util.ArrayList;
import java.util.Arrays;
import java.util.List;
import java.util.Set;
import java.util.TreeSet;
import java.util.regex.Matcher;
import java.util.regex.Pattern;

/** Looks whether the class keeps to the rules of LANGUAGE.md that can be seen from outside or in its text. */
public final class RulesTests {
    private static final String FACE =
            "put(int)int clear()int content(int)int folder(int)int version(int,int,int,int,int)int tag(int,int)int "
            + "told()int kind(int)int length(int)int part(int,int)int read(int,int,int)int where(int,int)int "
            + "sync(int)int unsynced(int)int crash(int,int)int tick(int)int expect(int,int,int,int)int "
            + "commit(int)boolean ref(int,int)int logs(int)int isWhole(int,int)boolean isShallow(int,int)boolean "
            + "replace(int,int,int)int walk(int,int,int)int walkAt(int)int choose(int,int)int chosen(int)int "
            + "reach(int,int)int reachByRounds(int,int)int pack(int,int,int)int packs(int)int entries(int,int)int "
            + "size(int,int)int base(int,int,int)int pin(int,int)boolean sweep(int)int line()boolean "
            + "fetch(int,int,int,boolean)int push(int,int)int spoil(int,int)int missing(int)int missingAt(int,int)int "
            + "mend(int)int";
    private static final String CONSTANTS =
            "NONE=-1 CONTENT=0 FOLDER=1 VERSION=2 TAG=3 LOOSE=1 PACKED=2 PROMISED=4";
    private static int wrong = 0;

    public static void main(String[] args) throws Exception {
        face();
        inside();
        text(Files.readString(Path.of("src/main/java/PackSpring.java")));
        System.out.println(wrong == 0 ? "the rules are kept" : wrong + " breaches of the rules");
        if (wrong != 0) {
            System.exit(1);
        }
    }

    private static void rule(int number, boolean isKept, String what) {
        if (!isKept) {
            wrong++;
            System.out.println("rule " + number + ": " + what);
        }
    }

    private static void face() throws Exception {
        Set<String> methods = new TreeSet<>();
        for (Method method : PackSpring.class.getDeclaredMethods()) {
            if (Modifier.isPublic(method.getModifiers())) {
                List<String> types = new ArrayList<>();
                for (Class<?> type : method.getParameterTypes()) {
                    types.add(type.getName());
                }
                methods.add(method.getName() + "(" + String.join(",", types) + ")" + method.getReturnType().getName());
            } else {
                rule(1, Modifier.isPrivate(method.getModifiers()), method + " is not private");
            }
        }
        rule(1, methods.equals(new TreeSet<>(Arrays.asList(FACE.split(" ")))), "other methods: " + methods);
        Set<String> constants = new TreeSet<>();
        for (Field field : PackSpring.class.getDeclaredFields()) {
            if (Modifier.isPublic(field.getModifiers())) {
                constants.add(field.getName() + "=" + field.getInt(null));
            } else {
                rule(1, Modifier.isPrivate(field.getModifiers()), field + " is not private");
            }
        }
        rule(1, constants.equals(new TreeSet<>(Arrays.asList(CONSTANTS.split(" ")))), "other constants: " + constants);
        Constructor<?>[] constructors = PackSpring.class.getDeclaredConstructors();
        rule(1, constructors.length == 1 && constructors[0].getParameterCount() == 0, "other constructors");
        rule(1, Modifier.isFinal(PackSpring.class.getModifiers()), "not final");
    }

    private static void inside() {
        Set<String> publics = new TreeSet<>();
        for (String method : FACE.split(" ")) {
            publics.add(method.substring(0, method.indexOf('(')));
        }
        List<Class<?>> all = new ArrayList<>(List.of(PackSpring.class));
        all.addAll(Arrays.asList(PackSpring.class.getDeclaredClasses()));
        rule(11, all.size() <= 12, all.size() + " classes");
        for (Class<?> type : all) {
            rule(2, type == PackSpring.class || Modifier.isStatic(type.getModifiers()), type + " is not static");
            int fields = 0;
            for (Field field : type.getDeclaredFields()) {
                boolean isStatic = Modifier.isStatic(field.getModifiers());
                fields += isStatic ? 0 : 1;
                rule(5, !isStatic || Modifier.isFinal(field.getModifiers()), field + " is static and not final");
            }
            rule(11, fields <= 20, type + " has " + fields + " fields");
            for (Method method : type.getDeclaredMethods()) {
                boolean isOfFace = type == PackSpring.class && Modifier.isPublic(method.getModifiers());
                rule(1, isOfFace || !publics.contains(method.getName()), method + " bears the name of a public one");
                rule(11, method.getParameterCount() <= 7, method + " has too many parameters");
            }
        }
    }

    private static void text(String source) {
        String code = source.replaceAll("(?s)/\\*.*?\\*/", "").replaceAll("//[^\n]*", "");
        String noTexts = code.replaceAll("\"[^\"]*\"", "\"\"");
        String[] banned = {"->", "::", "synchronized", "assert ", "finally", "System\\.", "Random", "Thread", "static \\{",
            "instanceof", "try \\{", "package ", "Exact", "\\.values\\(\\)", "Object ", "\\[\\]\\[\\]", "List<", "\"\" \\+"};
        for (String word : banned) {
            Matcher found = Pattern.compile(word).matcher(noTexts);
            rule(4, !found.find(), "the code has " + word);
        }
        Matcher imports = Pattern.compile("import ([^;]+);").matcher(noTexts);
        while (imports.find()) {
            rule(4, imports.group(1).equals("java.util.Arrays"), "imports " + imports.group(1));
        }
        Matcher filled = Pattern.compile("Arrays\\.(\\w+)").matcher(noTexts);
        while (filled.find()) {
            rule(4, filled.group(1).equals("fill"), "calls Arrays." + filled.group(1));
        }
        Matcher thrown = Pattern.compile("throw (?!new (IndexOutOfBounds|IllegalArgument|IllegalState)Exception\\(\"\"\\);)")
                .matcher(noTexts);
        rule(6, !thrown.find(), "throws something else");
        lengths(source.split("\n"));
    }

    private static void lengths(String[] lines) {
        int start = -1;
        for (int k = 0; k < lines.length; k++) {
            boolean isOpening = lines[k].matches(" {4}( {4})?[\\w\\[\\]]+.*\\).*\\{") || lines[k].matches(" {12}throws .*\\{");
            if (isOpening && !lines[k].contains(" class ")) {
                start = k;
            }
            if (start >= 0 && lines[k].matches(" {4}( {4})?\\}")) {
                rule(11, k - start < 60, "a method of " + (k - start + 1) + " lines ends at line " + (k + 1));
                start = -1;
            }
        }
    }
}

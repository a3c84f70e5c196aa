import java.io.IOException;
import java.lang.reflect.Constructor;
import java.lang.reflect.Field;
import java.lang.reflect.Method;
import java.lang.reflect.Modifier;
import java.nio.file.Files;
import java.nio.file.Path;
import java.util.List;
import java.util.Set;
import java.util.TreeSet;
import java.util.regex.Matcher;
import java.util.regex.Pattern;

/** That the class keeps to what can be seen of ../shared/LANGUAGE.md, and bears the document's face. */
final class FormTest {
    private static final Check check = new Check();
    private static final Set<String> FACE = new TreeSet<>(List.of(
            "int say(int)", "int wipe()", "int fault()", "int grammar()", "int rule(int, int, int)",
            "int least(int, int)", "int nothing()", "int word()", "int is(int)", "int first(int)",
            "int cost(int, int)", "int mend(int, int, int)", "int text(int)", "int ways()", "int kept(int)",
            "int example()", "int forget()", "int near(int, int)", "int total()", "int more(int, int)",
            "int told(int)"));
    private static final Set<String> LIBRARY = Set.of("Arrays.fill", "System.arraycopy", "Math.min", "Math.max",
            "Integer.bitCount");

    public static void main(String[] args) throws IOException {
        face();
        classes();
        String source = Files.readString(Path.of(args.length > 0 ? args[0] : "src/main/java/MendTexts.java"));
        words(source.replaceAll("(?s)/\\*.*?\\*/", "").replaceAll("//.*", "").replaceAll("'.'", "'x'"));
        lengths(source);
        check.end("FormTest");
    }

    private static String simply(Method method) {
        return method.getReturnType().getSimpleName() + " " + method.getName()
                + method.toString().replaceAll(".*(\\(.*\\)).*", "$1").replace(",", ", ");
    }

    private static void face() {
        Set<String> methods = new TreeSet<>();
        for (Method method : MendTexts.class.getDeclaredMethods()) {
            if (!Modifier.isPrivate(method.getModifiers()) && !method.isSynthetic()) {
                check.holds("public, not static: " + method,
                        Modifier.isPublic(method.getModifiers()) && !Modifier.isStatic(method.getModifiers()));
                methods.add(simply(method));
            }
        }
        check.holds("the methods are " + FACE + ", not " + methods, methods.equals(FACE));
        check.holds("public and final", Modifier.isFinal(MendTexts.class.getModifiers())
                && Modifier.isPublic(MendTexts.class.getModifiers()));
        Constructor<?>[] constructors = MendTexts.class.getDeclaredConstructors();
        check.holds("one public constructor without arguments", constructors.length == 1
                && Modifier.isPublic(constructors[0].getModifiers()) && constructors[0].getParameterCount() == 0);
        Set<String> constants = new TreeSet<>();
        for (Field field : MendTexts.class.getDeclaredFields()) {
            if (!Modifier.isPrivate(field.getModifiers())) {
                constants.add(field.getName());
                check.holds("a constant: " + field, Modifier.isPublic(field.getModifiers())
                        && Modifier.isStatic(field.getModifiers()) && Modifier.isFinal(field.getModifiers()));
            }
        }
        check.holds("the constants are the document's, not " + constants,
                constants.equals(Set.of("NONE", "UNKNOWN", "OUTSIDE", "STATE", "FULL", "NO")));
        check.due("NONE", MendTexts.NONE, -6);
        check.due("UNKNOWN", MendTexts.UNKNOWN, -1);
        check.due("OUTSIDE", MendTexts.OUTSIDE, -2);
        check.due("STATE", MendTexts.STATE, -3);
        check.due("FULL", MendTexts.FULL, -4);
        check.due("NO", MendTexts.NO, -5);
    }

    private static void classes() {
        Class<?>[] inside = MendTexts.class.getDeclaredClasses();
        check.holds("some twelve classes", inside.length <= 12);
        fieldsAndMethods(MendTexts.class);
        for (Class<?> one : inside) {
            check.holds("static and not public: " + one, Modifier.isStatic(one.getModifiers())
                    && !Modifier.isPublic(one.getModifiers()) && !Modifier.isProtected(one.getModifiers()));
            fieldsAndMethods(one);
        }
    }

    private static void fieldsAndMethods(Class<?> of) {
        int own = 0;
        for (Field field : of.getDeclaredFields()) {
            boolean constant = Modifier.isStatic(field.getModifiers());
            own += constant ? 0 : 1;
            check.holds("static fields are final: " + field,
                    !constant || Modifier.isFinal(field.getModifiers()));
            check.holds("static fields are constants: " + field,
                    !constant || field.getType() == int.class || field.getType() == long.class);
        }
        check.holds("some twenty fields in " + of, own <= 20);
        for (Method method : of.getDeclaredMethods()) {
            check.holds("seven parameters at most: " + method, method.getParameterCount() <= 7);
            boolean named = FACE.stream().anyMatch(face -> face.contains(" " + method.getName() + "("));
            check.holds("the face's names are the face's: " + method,
                    !named || Modifier.isPublic(method.getModifiers()));
        }
    }

    private static void words(String code) {
        for (String word : List.of("->", "::", "\\btry\\b", "\\bcatch\\b", "\\bthrow", "\\bfinally\\b", "\\bassert\\b",
                "\\bsynchronized\\b", "\\bpackage\\b", "\\bObject\\b", "\\bvar\\b", "\\bequals\\(", "\\bhashCode\\b",
                "\\btoString\\b", "static \\{", "\"", "\\bfloat\\b", "\\bdouble\\b", "\\bwhile\\b", "\\bnative\\b",
                "[^\\x00-\\x7f]", "\\b_\\b", "@", "Exact\\b", "MAX_VALUE", "MIN_VALUE")) {
            check.holds("the code is without " + word, !Pattern.compile(word).matcher(code).find());
        }
        Matcher imports = Pattern.compile("import\\s+([^;]+);").matcher(code);
        while (imports.find()) {
            check.holds("import of " + imports.group(1), imports.group(1).equals("java.util.Arrays"));
        }
        Matcher calls = Pattern.compile("\\b(Arrays|System|Math|Integer|Long|String)\\.\\w+").matcher(code);
        while (calls.find()) {
            check.holds("library: " + calls.group(),
                    LIBRARY.contains(calls.group()));
        }
    }

    private static void lengths(String source) {
        int begin = 0;
        String[] lines = source.split("\n");
        for (int i = 0; i < lines.length; i++) {
            if (lines[i].matches("( {4}| {8})[a-z].*\\) \\{")) {
                begin = i;
            }
            if (lines[i].matches("( {4}| {8})\\}") && i - begin > 60 && begin > 0
                    && lines[begin].indexOf(lines[begin].trim()) == lines[i].indexOf('}')) {
                check.holds("a method of sixty lines at most, line " + begin, false);
            }
            check.holds("a line of 120 signs at most: " + (i + 1), lines[i].length() <= 120);
        }
    }
}

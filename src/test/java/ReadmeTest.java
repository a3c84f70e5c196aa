import java.io.IOException;
import java.lang.reflect.Field;
import java.lang.reflect.Method;
import java.lang.reflect.Modifier;
import java.nio.file.Files;
import java.nio.file.Path;
import java.util.Arrays;
import java.util.Set;
import java.util.TreeSet;
import java.util.regex.Matcher;
import java.util.regex.Pattern;
import java.util.stream.Stream;

/** That README.md, by which the class is used and tested, tells what is so. */
final class ReadmeTest {
    private static final Check check = new Check();
    private static final Pattern SAYS = Pattern.compile("say\\(x, \"([^\"]*)\"\\);");
    private static final Pattern ASKS = Pattern.compile("x\\.(\\w+)\\(([-\\d, ]*)\\); +// (-?\\d+)( \\((\\w+)\\))?: .+");

    public static void main(String[] args) throws IOException, ReflectiveOperationException {
        String readme = Files.readString(Path.of("README.md"));
        example(readme.split("\n"));
        constants(readme);
        tests(readme);
        check.end("ReadmeTest");
    }

    /** Each line behind the making of x, to the end of its block, says signs or asks what the line answers. */
    private static void example(String[] lines) throws ReflectiveOperationException {
        MendTexts x = null;
        Set<String> asked = new TreeSet<>();
        for (String line : lines) {
            if (line.equals("MendTexts x = new MendTexts();")) {
                x = new MendTexts();
            } else if (line.equals("```")) {
                x = null;
            } else if (x != null && !line.isEmpty() && !line.startsWith("//")) {
                asked.add(step(x, line));
            }
        }
        for (Method method : MendTexts.class.getDeclaredMethods()) {
            check.holds("the example asks " + method.getName(),
                    !Modifier.isPublic(method.getModifiers()) || asked.contains(method.getName()));
        }
    }

    /** Does what a line of the example does; answers the name of its call. */
    private static String step(MendTexts x, String line) throws ReflectiveOperationException {
        check.sentence("README.md");
        Matcher says = SAYS.matcher(line);
        if (says.matches()) {
            Check.say(x, says.group(1));
            return "say";
        }
        Matcher asks = ASKS.matcher(line);
        if (!asks.matches()) {
            check.holds("a line that can be asked: " + line, false);
            return "";
        }
        int due = Integer.parseInt(asks.group(3));
        check.due(line, ask(x, asks.group(1), asks.group(2)), due);
        if (asks.group(5) != null) {
            check.due(line, constant(asks.group(5)), due);
        }
        return asks.group(1);
    }

    private static int ask(MendTexts x, String name, String told) throws ReflectiveOperationException {
        Integer[] numbers = told.isEmpty() ? new Integer[0]
                : Stream.of(told.split(", ")).map(Integer::valueOf).toArray(Integer[]::new);
        Class<?>[] types = new Class<?>[numbers.length];
        Arrays.fill(types, int.class);
        return (int) MendTexts.class.getMethod(name, types).invoke(x, (Object[]) numbers);
    }

    private static int constant(String name) throws ReflectiveOperationException {
        return MendTexts.class.getField(name).getInt(null);
    }

    /** Each constant has a row of the table, with its number. */
    private static void constants(String readme) throws ReflectiveOperationException {
        for (Field field : MendTexts.class.getFields()) {
            String row = "| `" + field.getName() + "` | " + constant(field.getName()) + " | ";
            check.holds("a row " + row, readme.contains("\n" + row));
        }
    }

    /** Each test of the project is in the table of the tests, and no other. */
    private static void tests(String readme) throws IOException {
        String table = readme.substring(readme.indexOf("| test |"));
        Set<String> told = new TreeSet<>();
        Matcher names = Pattern.compile("(?m)^\\| ((\\w+Test(, )?)+) \\|").matcher(table);
        while (names.find()) {
            told.addAll(Arrays.asList(names.group(1).split(", ")));
        }
        Set<String> there = new TreeSet<>();
        try (Stream<Path> files = Files.list(Path.of("src/test/java"))) {
            files.map(file -> file.getFileName().toString()).filter(file -> file.endsWith("Test.java"))
                    .forEach(file -> there.add(file.replace(".java", "")));
        }
        check.due("the table of the tests", told.toString(), there.toString());
    }
}

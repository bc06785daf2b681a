import java.io.File;
import java.io.IOException;
import java.lang.reflect.Method;
import java.lang.reflect.Modifier;
import java.nio.file.Files;
import java.nio.file.Path;
import java.util.regex.Matcher;
import java.util.regex.Pattern;

/** README.md tells what is so: its example, its text, its calls, its tests. */
public final class ReadmeTest {
    private static final Check CHECK = new Check();

    private ReadmeTest() {
    }

    public static void main(String[] args) throws IOException, ReflectiveOperationException {
        String readme = Files.readString(Path.of("README.md"));
        example(block(readme, "java"));
        text(block(readme, "text"));
        calls(readme);
        tests(readme);
        CHECK.end("ReadmeTest");
    }

    private static String block(String readme, String kind) {
        Matcher m = Pattern.compile("```" + kind + "\n(.*?)```", Pattern.DOTALL).matcher(readme);
        CHECK.isTrue("there is a block of " + kind, m.find());
        return m.group(1);
    }

    /** Each line is a call on x, with its answer behind the signs of a comment. */
    private static void example(String code) throws ReflectiveOperationException {
        MarginWays x = new MarginWays();
        int calls = 0;
        for (String line : code.split("\n")) {
            Matcher m = Pattern.compile("x\\.(\\w+)\\((.*?)\\);\\s*// (-?\\d+): .*").matcher(line);
            boolean isCall = m.matches();
            CHECK.isTrue("a call, or the first line: " + line, isCall || line.equals("MarginWays x = new MarginWays();"));
            if (isCall) {
                calls++;
                CHECK.same(line, answer(x, m.group(1), m.group(2)), Long.parseLong(m.group(3)));
            }
        }
        CHECK.isTrue("there are calls", calls > 10);
    }

    private static long answer(MarginWays x, String name, String list) throws ReflectiveOperationException {
        String[] texts = list.isEmpty() ? new String[0] : list.split(", ");
        Object[] numbers = new Object[texts.length];
        for (int i = 0; i < texts.length; i++) {
            numbers[i] = Integer.decode(texts[i]);
        }
        for (Method method : MarginWays.class.getMethods()) {
            if (method.getDeclaringClass() == MarginWays.class && method.getName().equals(name)) {
                return (Integer) method.invoke(x, numbers);
            }
        }
        throw new NoSuchMethodException(name);
    }

    /** What the lines mean stands behind their last sign. */
    private static void text(String lines) {
        MarginWays x = new MarginWays();
        CHECK.same("the text", Check.cellar(x, lines.replaceAll(";[^\n]*", ";")), 0);
        CHECK.same("its deeds", x.count(0), 2);
        CHECK.same("its people", x.count(1), 2);
        CHECK.same("its stiles", x.count(4), 1);
        CHECK.same("to where the first one is sent", x.person(0, 2), 10);
        CHECK.same("the second one is sent nowhere", x.person(1, 2), MarginWays.NONE);
    }

    private static void calls(String readme) {
        for (Method method : MarginWays.class.getDeclaredMethods()) {
            if (Modifier.isPublic(method.getModifiers())) {
                boolean told = Pattern.compile("^\\| .*`" + method.getName() + "\\(([^)]*)\\)", Pattern.MULTILINE).matcher(readme).results()
                    .anyMatch(m -> parametersOf(m.group(1)) == method.getParameterCount());
                CHECK.isTrue("it tells of " + method, told);
            }
        }
    }

    private static int parametersOf(String list) {
        return list.isEmpty() ? 0 : list.split(",").length;
    }

    private static void tests(String readme) {
        File[] files = new File("src/test/java").listFiles((directory, name) -> name.endsWith("Test.java"));
        CHECK.isTrue("there are tests", files != null && files.length > 0);
        for (File file : files == null ? new File[0] : files) {
            String name = file.getName().replace(".java", "");
            CHECK.isTrue("it names " + name, readme.contains("- `" + name + "`:"));
        }
    }
}

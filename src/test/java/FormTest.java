import java.io.IOException;
import java.lang.reflect.Constructor;
import java.lang.reflect.Field;
import java.lang.reflect.Method;
import java.lang.reflect.Modifier;
import java.nio.file.Files;
import java.nio.file.Path;
import java.util.Arrays;
import java.util.Set;
import java.util.TreeSet;
import java.util.regex.Matcher;
import java.util.regex.Pattern;

/** The form that LANGUAGE.md asks for, as far as a look at the source and at the class can tell. */
public final class FormTest {
    private static final Check CHECK = new Check();
    private static final Path SOURCE = Path.of("src/main/java/MarginWays.java");
    private static final Path DOCUMENT = Path.of("../shared/DOC.md");

    /** Rule 5; arrays may be constants, too, but the class has none. */
    private static final Set<Class<?>> CONSTANTS = Set.of(int.class, long.class, boolean.class, char.class, String.class);

    private FormTest() {
    }

    public static void main(String[] args) throws IOException {
        String source = Files.readString(SOURCE);
        String code = withoutComments(source);
        face();
        members(MarginWays.class);
        for (Class<?> inside : MarginWays.class.getDeclaredClasses()) {
            members(inside);
        }
        CHECK.isTrue("at most twelve classes", MarginWays.class.getDeclaredClasses().length < 12);
        words(code);
        lengths(code);
        CHECK.end("FormTest");
    }

    private static String withoutComments(String source) {
        return source.replaceAll("(?s)/\\*.*?\\*/", "").replaceAll("//[^\n]*", "");
    }

    /** Rule 1: every member of the document's face, with what it throws, and no other one. */
    private static void face() throws IOException {
        Set<String> due = new TreeSet<>();
        Matcher m = Pattern.compile("    public (\\w+ \\w+\\([^;]*);").matcher(Files.readString(DOCUMENT));
        while (m.find()) {
            due.add(m.group(1).replaceAll("(int|boolean) \\w+(?=[,)])", "$1"));
        }
        Set<String> got = new TreeSet<>();
        for (Method method : MarginWays.class.getDeclaredMethods()) {
            if (!Modifier.isPrivate(method.getModifiers())) {
                CHECK.isTrue(method + " is public", Modifier.isPublic(method.getModifiers()));
                got.add(told(method));
            }
        }
        CHECK.same("methods of the face", due.size(), 37);
        CHECK.isTrue("the face is as the document's: " + due + " / " + got, due.equals(got));
        Set<String> fields = new TreeSet<>();
        for (Field field : MarginWays.class.getDeclaredFields()) {
            if (!Modifier.isPrivate(field.getModifiers())) {
                fields.add(Modifier.toString(field.getModifiers()) + " " + field.getType() + " " + field.getName());
            }
        }
        CHECK.isTrue("the constants are as the document's: " + fields, fields.equals(Set.of("public static final int NONE")));
        Constructor<?>[] constructors = MarginWays.class.getDeclaredConstructors();
        CHECK.same("constructors", constructors.length, 1);
        CHECK.isTrue("it is public", Modifier.isPublic(constructors[0].getModifiers()));
        CHECK.same("it takes nothing", constructors[0].getParameterCount(), 0);
        CHECK.isTrue("public and final", Modifier.isPublic(MarginWays.class.getModifiers())
            && Modifier.isFinal(MarginWays.class.getModifiers()));
    }

    private static String told(Method method) {
        StringBuilder text = new StringBuilder(method.getReturnType().getSimpleName() + " " + method.getName() + "(");
        text.append(String.join(", ", Arrays.stream(method.getParameterTypes()).map(Class::getSimpleName).toList())).append(")");
        if (method.getExceptionTypes().length > 0) {
            text.append(" throws ");
            text.append(String.join(", ", Arrays.stream(method.getExceptionTypes()).map(Class::getSimpleName).toList()));
        }
        return text.toString();
    }

    /** Rules 1, 2, 5, 11: names, static fields, parameters, fields. */
    private static void members(Class<?> type) {
        Set<String> faceNames = new TreeSet<>();
        for (Method method : MarginWays.class.getDeclaredMethods()) {
            if (Modifier.isPublic(method.getModifiers())) {
                faceNames.add(method.getName());
            }
        }
        for (Method method : type.getDeclaredMethods()) {
            boolean ofFace = type == MarginWays.class && Modifier.isPublic(method.getModifiers());
            CHECK.isTrue("a name of the face's: " + method, ofFace || !faceNames.contains(method.getName()));
            CHECK.isTrue("at most seven parameters: " + method, method.getParameterCount() <= 7);
            CHECK.isFalse("synthetic: " + method, method.isSynthetic());
        }
        int fields = 0;
        for (Field field : type.getDeclaredFields()) {
            if (Modifier.isStatic(field.getModifiers())) {
                CHECK.isTrue("static is final: " + field, Modifier.isFinal(field.getModifiers()));
                CHECK.isTrue("static is a constant: " + field, CONSTANTS.contains(field.getType()));
            } else {
                fields++;
            }
        }
        CHECK.isTrue("at most twenty fields: " + type, fields <= 20);
        if (type != MarginWays.class) {
            CHECK.isTrue("static: " + type, Modifier.isStatic(type.getModifiers()));
            CHECK.isFalse("public or protected: " + type, Modifier.isPublic(type.getModifiers()) || Modifier.isProtected(type.getModifiers()));
        }
    }

    /** Rules 3, 4, 6, 10: what may not stand in the source, and which names of the library may. */
    private static void words(String code) {
        for (String word : new String[] {"package", "try", "catch", "finally", "synchronized", "assert", "instanceof", "var", "null",
            "native", "volatile", "protected", "System.out", "Exact", "hashCode", "toString", "double", "float", "->", "::", "@"}) {
            boolean letters = Character.isLetter(word.charAt(0));
            String pattern = letters && !word.equals("Exact") ? "\\b" + Pattern.quote(word) + "\\b" : Pattern.quote(word);
            CHECK.isFalse("stands in the source: " + word, Pattern.compile(pattern).matcher(code).find());
        }
        Set<String> library = Set.of("Math.min", "Math.max", "Long.bitCount", "System.arraycopy");
        Matcher m = Pattern.compile("\\b(Math|Long|Integer|System|Arrays|String|Character)\\.\\w+").matcher(code);
        while (m.find()) {
            CHECK.isTrue("of the library: " + m.group(), library.contains(m.group()));
        }
        Matcher imports = Pattern.compile("import ([\\w.]+);").matcher(code);
        while (imports.find()) {
            CHECK.isTrue("import: " + imports.group(1), imports.group(1).equals("java.util.NoSuchElementException"));
        }
        Matcher thrown = Pattern.compile("throw new (\\w+)\\(\"[^\"]*\"\\);").matcher(code);
        int many = 0;
        while (thrown.find()) {
            many++;
            CHECK.isTrue("thrown: " + thrown.group(1), Set.of("NoSuchElementException", "IllegalArgumentException").contains(thrown.group(1)));
        }
        CHECK.same("each throw has a written text", code.split("\\bthrow\\b", -1).length - 1, many);
    }

    /** Rule 11: methods stay short. */
    private static void lengths(String code) {
        int length = 0;
        int number = 0;
        for (String line : code.split("\n")) {
            number++;
            boolean begins = line.matches("    (    )?[a-zA-Z].*\\(.*\\).*\\{\\s*");
            length = begins ? 1 : length + 1;
            if (line.matches("    (    )?\\}\\s*")) {
                CHECK.isTrue("what ends at line " + number + " without comments has " + length + " lines", length <= 60);
            }
        }
    }
}

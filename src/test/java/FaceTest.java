import java.io.IOException;
import java.lang.reflect.Constructor;
import java.lang.reflect.Field;
import java.lang.reflect.Method;
import java.lang.reflect.Modifier;
import java.nio.file.Files;
import java.nio.file.Path;
import java.util.TreeSet;
import java.util.regex.Matcher;
import java.util.regex.Pattern;

/** The public face is the one that the document prints, and the source keeps to the words of ../shared/LANGUAGE.md. */
public final class FaceTest {
    private static final Checks CHECKS = new Checks();
    private static final Path SOURCE = Path.of("src/main/java/ProxyVersions.java");
    private static final Path DOCUMENT = Path.of("../shared/DOC.md");

    public static void main(String[] args) throws IOException {
        face();
        nestedClasses();
        words();
        CHECKS.end();
    }

    private static void face() throws IOException {
        TreeSet<String> due = new TreeSet<>();
        Matcher line = Pattern.compile("(?m)^    (public .*?);$").matcher(Files.readString(DOCUMENT));
        while (line.find()) {
            due.add(line.group(1).replaceAll("(int) \\w+(?=[,)])", "$1"));
        }
        TreeSet<String> got = new TreeSet<>();
        Class<?> type = ProxyVersions.class;
        for (Constructor<?> constructor : type.getDeclaredConstructors()) {
            got.add(said(constructor.getModifiers(), "ProxyVersions", constructor.getParameterCount()));
        }
        for (Method method : type.getDeclaredMethods()) {
            if (!Modifier.isPrivate(method.getModifiers())) {
                got.add(said(method.getModifiers(), method.getReturnType() + " " + method.getName(),
                        method.getParameterCount()));
            }
        }
        for (Field field : type.getDeclaredFields()) {
            if (!Modifier.isPrivate(field.getModifiers())) {
                got.add(Modifier.toString(field.getModifiers()) + " int " + field.getName() + " = " + valueOf(field));
            }
        }
        CHECKS.due("the face", String.join("\n", got), String.join("\n", due));
        CHECKS.due("lines of the face", got.size(), 29);
        CHECKS.due("public and final", type.getModifiers(), Modifier.PUBLIC | Modifier.FINAL);
    }

    private static String said(int modifiers, String name, int parameters) {
        String list = parameters == 0 ? "" : "int" + ", int".repeat(parameters - 1);
        return Modifier.toString(modifiers) + " " + name + "(" + list + ")";
    }

    private static String valueOf(Field field) {
        try {
            return String.valueOf(field.get(null));
        } catch (IllegalAccessException e) {
            return e.toString();
        }
    }

    private static void nestedClasses() {
        Class<?>[] nested = ProxyVersions.class.getDeclaredClasses();
        CHECKS.due("at most 12 classes", nested.length <= 11 ? 1 : 0, 1);
        TreeSet<String> publicNames = new TreeSet<>();
        for (Method method : ProxyVersions.class.getMethods()) {
            publicNames.add(method.getName());
        }
        for (Class<?> type : nested) {
            CHECKS.due(type + " is static", Modifier.isStatic(type.getModifiers()) ? 1 : 0, 1);
            CHECKS.due(type + " is not public", Modifier.isPublic(type.getModifiers()) ? 1 : 0, 0);
            for (Method method : type.getDeclaredMethods()) {
                CHECKS.due(method + " has a name of its own", publicNames.contains(method.getName()) ? 1 : 0, 0);
                CHECKS.due(method + " has at most 7 parameters", method.getParameterCount() <= 7 ? 1 : 0, 1);
            }
        }
        for (Method method : ProxyVersions.class.getDeclaredMethods()) {
            boolean hides = Modifier.isPrivate(method.getModifiers()) && publicNames.contains(method.getName());
            CHECKS.due(method + " has a name of its own", hides ? 1 : 0, 0);
        }
    }

    /** Words and signs that rules 2 to 6, 9 and 13 leave out. */
    private static void words() throws IOException {
        String source = Files.readString(SOURCE).replaceAll("(?s)/\\*.*?\\*/", "").replaceAll("//[^\n]*", "");
        String[] out = {
            "throw", "throws", "try", "catch", "finally", "synchronized", "assert", "import", "package", "protected",
            "volatile", "Thread", "Random", "Object", "Exception", "equals", "hashCode", "toString", "instanceof",
            "native", "strictfp", "transient", "super", "var", "yield", "Exact"
        };
        for (String word : out) {
            CHECKS.due("'" + word + "' stands in the source",
                    Pattern.compile("\\b" + word + "\\b").matcher(source).find() ? 1 : 0, 0);
        }
        for (String sign : new String[] {"->", "::", "@", "\"", "while (true)", "for (;;)"}) {
            CHECKS.due("'" + sign + "' stands in the source", source.contains(sign) ? 1 : 0, 0);
        }
    }
}

import java.io.IOException;
import java.lang.reflect.Constructor;
import java.lang.reflect.Field;
import java.lang.reflect.Method;
import java.lang.reflect.Modifier;
import java.nio.file.Files;
import java.nio.file.Path;
import java.util.TreeSet;
import java.util.regex.Matcher;
import java.util.regex.Pattern;

/** The public face is the one that the document prints. */
public final class FaceTest {
    private static final Checks CHECKS = new Checks();
    private static final Path DOCUMENT = Path.of("../shared/DOC.md");

    public static void main(String[] args) throws IOException {
        face();
        CHECKS.end();
    }

    private static void face() throws IOException {
        TreeSet<String> due = new TreeSet<>();
        Matcher line = Pattern.compile("(?m)^    (public .*?);$").matcher(Files.readString(DOCUMENT));
        while (line.find()) {
            due.add(line.group(1).replaceAll("(int) \\w+(?=[,)])", "$1"));
        }
        TreeSet<String> got = new TreeSet<>();
        Class<?> type = ProxyVersions.class;
        for (Constructor<?> constructor : type.getDeclaredConstructors()) {
            got.add(said(constructor.getModifiers(), "ProxyVersions", constructor.getParameterCount()));
        }
        for (Method method : type.getDeclaredMethods()) {
            if (!Modifier.isPrivate(method.getModifiers())) {
                got.add(said(method.getModifiers(), method.getReturnType() + " " + method.getName(),
                        method.getParameterCount()));
            }
        }
        for (Field field : type.getDeclaredFields()) {
            if (!Modifier.isPrivate(field.getModifiers())) {
                got.add(Modifier.toString(field.getModifiers()) + " int " + field.getName() + " = " + valueOf(field));
            }
        }
        CHECKS.due("the face", String.join("\n", got), String.join("\n", due));
        CHECKS.due("lines of the face", got.size(), 29);
        CHECKS.due("public and final", type.getModifiers(), Modifier.PUBLIC | Modifier.FINAL);
    }

    private static String said(int modifiers, String name, int parameters) {
        String list = parameters == 0 ? "" : "int" + ", int".repeat(parameters - 1);
        return Modifier.toString(modifiers) + " " + name + "(" + list + ")";
    }

    private static String valueOf(Field field) {
        try {
            return String.valueOf(field.get(null));
        } catch (IllegalAccessException e) {
            return e.toString();
        }
    }
}

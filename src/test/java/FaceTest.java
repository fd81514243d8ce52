import java.io.IOException;
import java.lang.reflect.Constructor;
import java.lang.reflect.Field;
import java.lang.reflect.Method;
import java.lang.reflect.Modifier;
import java.nio.file.Files;
import java.nio.file.Path;
import java.util.ArrayList;
import java.util.Collections;
import java.util.IdentityHashMap;
import java.util.List;
import java.util.Set;
import java.util.TreeSet;
import java.util.regex.Matcher;
import java.util.regex.Pattern;

/** The public face is the one that the document prints, and the source keeps to the words of ../shared/LANGUAGE.md. */
public final class FaceTest {
    private static final Checks CHECKS = new Checks();
    private static final Path SOURCE = Path.of("src/main/java/ProxyVersions.java");
    private static final Path DOCUMENT = Path.of("../shared/DOC.md");

    public static void main(String[] args) throws IOException {
        face();
        nestedClasses();
        fields();
        words();
        methods();
        library();
        room();
        CHECKS.end();
    }

    private static void face() throws IOException {
        TreeSet<String> due = new TreeSet<>();
        Matcher line = Pattern.compile("(?m)^    (public .*?);$").matcher(Files.readString(DOCUMENT));
        while (line.find()) {
            due.add(line.group(1).replaceAll("(int) \\w+(?=[,)])", "$1"));
        }
        TreeSet<String> got = new TreeSet<>();
        Class<?> type = ProxyVersions.class;
        for (Constructor<?> constructor : type.getDeclaredConstructors()) {
            got.add(said(constructor.getModifiers(), "ProxyVersions", constructor.getParameterCount()));
        }
        for (Method method : type.getDeclaredMethods()) {
            if (!Modifier.isPrivate(method.getModifiers())) {
                got.add(said(method.getModifiers(), method.getReturnType() + " " + method.getName(),
                        method.getParameterCount()));
            }
        }
        for (Field field : type.getDeclaredFields()) {
            if (!Modifier.isPrivate(field.getModifiers())) {
                got.add(Modifier.toString(field.getModifiers()) + " int " + field.getName() + " = " + valueOf(field));
            }
        }
        CHECKS.due("the face", String.join("\n", got), String.join("\n", due));
        CHECKS.due("lines of the face", got.size(), 29);
        CHECKS.due("public and final", type.getModifiers(), Modifier.PUBLIC | Modifier.FINAL);
    }

    private static String said(int modifiers, String name, int parameters) {
        String list = parameters == 0 ? "" : "int" + ", int".repeat(parameters - 1);
        return Modifier.toString(modifiers) + " " + name + "(" + list + ")";
    }

    private static String valueOf(Field field) {
        try {
            return String.valueOf(field.get(null));
        } catch (IllegalAccessException e) {
            return e.toString();
        }
    }

    private static void nestedClasses() {
        Class<?>[] nested = ProxyVersions.class.getDeclaredClasses();
        CHECKS.due("at most 12 classes", nested.length <= 11 ? 1 : 0, 1);
        TreeSet<String> publicNames = new TreeSet<>();
        for (Method method : ProxyVersions.class.getMethods()) {
            publicNames.add(method.getName());
        }
        for (Class<?> type : nested) {
            CHECKS.due(type + " is static", Modifier.isStatic(type.getModifiers()) ? 1 : 0, 1);
            CHECKS.due(type + " is not public", Modifier.isPublic(type.getModifiers()) ? 1 : 0, 0);
            for (Method method : type.getDeclaredMethods()) {
                CHECKS.due(method + " has a name of its own", publicNames.contains(method.getName()) ? 1 : 0, 0);
                CHECKS.due(method + " has at most 7 parameters", method.getParameterCount() <= 7 ? 1 : 0, 1);
            }
        }
        for (Method method : ProxyVersions.class.getDeclaredMethods()) {
            boolean hides = Modifier.isPrivate(method.getModifiers()) && publicNames.contains(method.getName());
            CHECKS.due(method + " has a name of its own", hides ? 1 : 0, 0);
        }
    }

    private static List<Class<?>> allClasses() {
        List<Class<?>> all = new ArrayList<>(List.of(ProxyVersions.class.getDeclaredClasses()));
        all.add(ProxyVersions.class);
        return all;
    }

    /** Rules 5 and 11: static fields are constants, and there are at most some twenty others in a class. */
    private static void fields() {
        for (Class<?> type : allClasses()) {
            int others = 0;
            for (Field field : type.getDeclaredFields()) {
                boolean isStatic = Modifier.isStatic(field.getModifiers());
                others += isStatic ? 0 : 1;
                boolean constant = Modifier.isFinal(field.getModifiers()) && field.getType() == int.class;
                CHECKS.due(field + " is a constant, or not static", !isStatic || constant ? 1 : 0, 1);
            }
            CHECKS.due(type + " has at most 20 fields", others <= 20 ? 1 : 0, 1);
        }
    }

    /** Rule 11: a method has some sixty lines at most. */
    private static void methods() throws IOException {
        List<String> lines = Files.readAllLines(SOURCE);
        int seen = 0;
        for (int first = 0; first < lines.size(); first++) {
            String indent = lines.get(first).replaceFirst("\\S.*", "");
            boolean isMethod = indent.length() <= 8 && lines.get(first).matches(".*\\w\\(.*\\) \\{");
            int last = first;
            while (isMethod && !lines.get(last).equals(indent + "}")) {
                last++;
            }
            seen += isMethod ? 1 : 0;
            CHECKS.due(lines.get(first) + " has at most 60 lines", last - first < 60 ? 1 : 0, 1);
        }
        CHECKS.due("methods were found", seen > 80 ? 1 : 0, 1);
    }

    /** Rule 4: what is called on a class that is not one of its own. */
    private static void library() throws IOException {
        Set<String> allowed = Set.of("Math.max", "Math.min", "Math.floorMod", "Integer.bitCount", "System.arraycopy");
        Set<String> own = new TreeSet<>();
        for (Class<?> type : allClasses()) {
            own.add(type.getSimpleName());
        }
        Matcher call = Pattern.compile("\\b([A-Z]\\w*)\\.(\\w+)").matcher(sourceWithoutComments());
        while (call.find()) {
            boolean fine = own.contains(call.group(1)) || allowed.contains(call.group());
            CHECKS.due(call.group() + " is in the library", fine ? 1 : 0, 1);
        }
        CHECKS.due("signs beyond 127", Files.readString(SOURCE).chars().anyMatch(sign -> sign > 127) ? 1 : 0, 0);
    }

    /** Rule 12: an object is small when it is made, and holds no more after 512 calls. */
    private static void room() {
        ProxyVersions x = Scenes.star(7);
        int before = countObjects(x);
        for (int call = 8; call <= 512; call++) {
            switch (call % 5) {
                case 0: x.write(call % 4); break;
                case 1: x.deliver(1 + call % 7, 1, 9); break;
                case 2: x.appendCharacter(call % 2 == 0 ? 'w' : '0'); break;
                case 3: x.ask(1 + call % 7); break;
                default: x.runScript();
            }
        }
        CHECKS.due("objects after 512 calls", countObjects(x), before);
        CHECKS.due("at most 1000 objects: " + before, before <= 1000 ? 1 : 0, 1);
    }

    private static int countObjects(Object root) {
        Set<Object> seen = Collections.newSetFromMap(new IdentityHashMap<>());
        List<Object> open = new ArrayList<>(List.of(root));
        while (!open.isEmpty()) {
            Object next = open.remove(open.size() - 1);
            if (!seen.add(next)) {
                continue;
            }
            if (next instanceof Object[]) {
                open.addAll(List.of((Object[]) next));
            }
            for (Field field : next.getClass().getDeclaredFields()) {
                if (!field.getType().isPrimitive() && !Modifier.isStatic(field.getModifiers())) {
                    open.add(valueOf(field, next));
                }
            }
        }
        return seen.size();
    }

    private static Object valueOf(Field field, Object holder) {
        try {
            field.setAccessible(true);
            return field.get(holder);
        } catch (IllegalAccessException e) {
            throw new IllegalStateException(e);
        }
    }

    private static String sourceWithoutComments() throws IOException {
        return Files.readString(SOURCE).replaceAll("(?s)/\\*.*?\\*/", "").replaceAll("//[^\n]*", "");
    }

    /** Words and signs that rules 2 to 6, 9 and 13 leave out. */
    private static void words() throws IOException {
        String source = sourceWithoutComments();
        String[] out = {
            "throw", "throws", "try", "catch", "finally", "synchronized", "assert", "import", "package", "protected",
            "volatile", "Thread", "Random", "Object", "Exception", "equals", "hashCode", "toString", "instanceof",
            "native", "strictfp", "transient", "super", "var", "yield", "Exact"
        };
        for (String word : out) {
            CHECKS.due("'" + word + "' stands in the source",
                    Pattern.compile("\\b" + word + "\\b").matcher(source).find() ? 1 : 0, 0);
        }
        for (String sign : new String[] {"->", "::", "@", "\"", "while (true)", "for (;;)"}) {
            CHECKS.due("'" + sign + "' stands in the source", source.contains(sign) ? 1 : 0, 0);
        }
    }
}

import java.io.IOException;
import java.lang.reflect.Field;
import java.lang.reflect.Modifier;
import java.nio.file.Files;
import java.nio.file.Path;
import java.util.ArrayList;
import java.util.Collections;
import java.util.IdentityHashMap;
import java.util.List;
import java.util.Set;

/** The class keeps to ../shared/LANGUAGE.md, and LanguageRules notices a source that does not. */
public final class LanguageTest {
    private static final Checks CHECKS = new Checks();

    private static String source;

    public static void main(String[] args) throws IOException {
        source = Files.readString(Path.of("src/main/java/ProxyVersions.java"));
        LanguageRules rules = new LanguageRules(source);
        CHECKS.due("the class", String.join("\n", rules.complaints()), "");
        CHECKS.due("methods were looked at", rules.methods() > 80 ? 1 : 0, 1);
        CHECKS.due("loops were looked at", rules.loops() > 30 ? 1 : 0, 1);
        brokenFace();
        brokenParts();
        brokenLoops();
        brokenSizes();
        room();
        CHECKS.end();
    }

    /** With one more member the class breaks the rule. */
    private static void broken(String complaint, String member) throws IOException {
        int end = source.lastIndexOf('}');
        brokenSource(complaint, source.substring(0, end) + member + "\n}\n", member);
    }

    private static void brokenSource(String complaint, String text, String what) throws IOException {
        Set<String> complaints = new LanguageRules(text).complaints();
        boolean noticed = complaints.stream().anyMatch(each -> each.startsWith(complaint));
        CHECKS.due(complaint + " is noticed in " + what + ", told is " + complaints, noticed ? 1 : 0, 1);
    }

    private static void brokenFace() throws IOException {
        broken("rule 1:", "static int extra() { return 0; }");
        broken("rule 1:", "protected int extra() { return 0; }");
        broken("rule 1:", "private int write() { return 0; }");
        broken("rule 1:", "int extra;");
        broken("rule 1:", "static final class Extra { int served() { return 0; } }");
        brokenSource("rule 1:", "package extra;\n" + source, "a package");
        brokenSource("rule 1:", "import java.util.List;\n" + source, "an import");
        brokenSource("rule 1:", source + "final class Extra { }\n", "a second class");
        broken("rule 2:", "private final class Extra { }");
        broken("rule 2:", "public static final class Extra { }");
        broken("rule 2:", "private int extra() { class Inner { } return 0; }");
        broken("INTERFACE", "private interface Extra { }");
        broken("rule 5:", "private static int extra;");
        broken("rule 5:", "private static final int[] EXTRA = new int[1];");
        broken("rule 5:", "static { }");
    }

    private static void brokenParts() throws IOException {
        broken("LAMBDA_EXPRESSION", "private void extra() { Runnable run = () -> { }; }");
        broken("MEMBER_REFERENCE", "private void extra() { Runnable run = System::gc; }");
        broken("THROW", "private void extra() { throw new IllegalStateException(); }");
        broken("TRY", "private void extra() { try { state.addChild(0); } finally { state.addChild(0); } }");
        broken("SYNCHRONIZED", "private void extra() { synchronized (state) { state.addChild(0); } }");
        broken("ASSERT", "private void extra() { assert state.addChild(0) == 1; }");
        broken("TYPE_CAST", "private void extra(Line[] lines) { lines[0] = (Line) lines[1]; }");
        broken("STRING_LITERAL", "private int extra() { return \"text\".length(); }");
        broken("rule 3:", "private static final class Extra { private double number; }");
        broken("rule 3:", "private Object extra() { return state; }");
        broken("rule 3:", "private static final class Extra { private int[][] numbers; }");
        broken("rule 4:", "private int extra(int number) { return Math.addExact(number, 1); }");
        broken("rule 4:", "private void extra() { System.gc(); }");
        broken("rule 4:", "private int extra() { return text.hashCode(); }");
        broken("rule 4:", "private int extra() { return '\u00e9'; }");
        broken("rule 6:", "private boolean extra(Line line) { return line == text; }");
        broken("rule 6:", "private int extra(int number) { switch (number) { case 1 -> number++; default -> { } } "
                + "return number; }");
        broken("rule 7:", "private int extra(int number) { return 1 / number; }");
        broken("rule 7:", "private int extra(int number) { return 1 % number; }");
        broken("rule 8:", "private int extra(int number) { return number > 0 ? extra(number - 1) : 0; }");
        broken("rule 8:", "private int extra(int number) { return more(number); } "
                + "private int more(int number) { return extra(number); }");
        broken("rule 12:", "private int extra() { return new Line(1).length(); }");
        broken("rule 12:", "private int extra() { int[] made = new int[1]; return made.length; }");
    }

    private static void brokenLoops() throws IOException {
        broken("rule 9:", "private int extra(int to) { int i = 0; while (i != to) { i++; } return i; }");
        broken("rule 9:", "private int extra(int to) { int i = 0; while (true) { i++; } }");
        broken("rule 9:", "private int extra(int to) { for (int i = 0; ; i++) { } }");
        broken("rule 9:", "private int extra(int to) { for (int i = 0; i < to; i--) { to--; } return 0; }");
        broken("rule 9:", "private int extra(int to) { for (int i = 0; i > to; i++) { } return 0; }");
        broken("rule 9:", "private int extra(int to) { for (int i = 0; i < to; i++) { i = 0; } return 0; }");
        broken("rule 9:", "private int extra(int to) { for (int i = 0; i < to; i++) { i--; } return 0; }");
        broken("rule 9:", "private int extra(int to) { for (int i = 0; i < to; i++) { to++; } return 0; }");
        broken("rule 9:", "private int extra(int to) { for (int i = 0; i < to || to > 0; i++) { } return 0; }");
        broken("rule 9:", "private int extra(int to) { while (text.length() > 0) { to++; } return to; }");
        broken("DO_WHILE_LOOP", "private int extra(int to) { do { to++; } while (to < 0); return to; }");
    }

    private static void brokenSizes() throws IOException {
        broken("rule 11:", "private int extra(int a, int b, int c, int d, int e, int f, int g, int h) { return a; }");
        broken("rule 11:", "private int extra(int a) {\n" + "a++;\n".repeat(59) + "return a; }");
        StringBuilder fields = new StringBuilder();
        StringBuilder classes = new StringBuilder();
        StringBuilder chain = new StringBuilder("private int extra0(int a) { return a; }\n");
        for (int number = 1; number <= 21; number++) {
            fields.append("private int field").append(number).append(";\n");
        }
        for (int number = 1; number <= 5; number++) {
            classes.append("private static final class Extra").append(number).append(" { }\n");
        }
        for (int number = 1; number <= 8; number++) {
            chain.append("private int extra").append(number).append("(int a) { return extra").append(number - 1)
                    .append("(a); }\n");
        }
        broken("rule 11:", "private static final class Extra {\n" + fields + "}");
        broken("rule 11:", classes.toString());
        broken("rule 11:", chain.toString());
    }

    /** Rule 12: an object is small when it is made, and holds no more after 512 calls. */
    private static void room() {
        ProxyVersions x = Scenes.star(7);
        int before = countObjects(x);
        for (int call = 8; call <= 512; call++) {
            switch (call % 5) {
                case 0: x.write(call % 4); break;
                case 1: x.deliver(1 + call % 7, 1, 9); break;
                case 2: x.appendCharacter(call % 2 == 0 ? 'w' : '0'); break;
                case 3: x.ask(1 + call % 7); break;
                default: x.runScript();
            }
        }
        CHECKS.due("objects after 512 calls", countObjects(x), before);
        CHECKS.due("at most 1000 objects: " + before, before <= 1000 ? 1 : 0, 1);
    }

    private static int countObjects(Object root) {
        Set<Object> seen = Collections.newSetFromMap(new IdentityHashMap<>());
        List<Object> open = new ArrayList<>(List.of(root));
        while (!open.isEmpty()) {
            Object next = open.remove(open.size() - 1);
            if (!seen.add(next)) {
                continue;
            }
            if (next instanceof Object[] array) {
                open.addAll(List.of(array));
            }
            for (Field field : next.getClass().getDeclaredFields()) {
                if (!field.getType().isPrimitive() && !Modifier.isStatic(field.getModifiers())) {
                    open.add(valueOf(field, next));
                }
            }
        }
        return seen.size();
    }

    private static Object valueOf(Field field, Object holder) {
        try {
            field.setAccessible(true);
            return field.get(holder);
        } catch (IllegalAccessException e) {
            throw new IllegalStateException(e);
        }
    }
}

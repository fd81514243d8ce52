import java.lang.reflect.Method;
import java.util.ArrayList;
import java.util.HashMap;
import java.util.List;
import java.util.Map;
import java.util.Random;
import java.util.TreeMap;

/** Runs of at most 512 calls from fixed seeds, on the class and on PlainModel: each answer is due to be the same. */
public final class ModelTest {
    private static final int RUNS = 3000;
    private static final int CALLS = 512;

    private static final String[] CHANGES = {
        "addProxy", "setHome", "setLimits", "write", "deliver", "lose", "read", "ask", "undo"
    };
    private static final String[] QUESTIONS = {
        "proxy", "count", "cause", "queued", "bound", "exception", "served", "status", "missing", "kept", "covers",
        "upToDate", "clearText", "runScript", "appendCharacter"
    };
    /** Each error code that a promise names, and each NONE: the runs must meet them all. */
    private static final String[] TO_MEET = {
        "addProxy -1", "addProxy -3", "setHome -1", "setHome -2", "setLimits -1", "setLimits 0", "setLimits 1",
        "proxy -1", "proxy -9", "count -1", "write -1", "write -3", "cause -1", "deliver -1", "deliver -2",
        "deliver 0", "lose -1", "lose -2", "queued -1", "queued -9", "bound -1", "exception -1", "exception -9",
        "served -1", "status -1", "status 0", "status 1", "status 2", "status 3", "missing -1", "kept -1", "kept -9",
        "read -1", "read -2", "read -9", "read 0", "read 1", "read 2", "ask -1", "ask -9", "ask 0", "ask 1",
        "covers -1", "covers 0", "covers 1", "appendCharacter -1", "appendCharacter -3", "runScript -10", "undo -2",
        "undo 5"
    };

    private final Checks checks = new Checks();
    private final Map<String, Method> real = methodsOf(ProxyVersions.class);
    private final Map<String, Method> plain = methodsOf(PlainModel.class);
    private final Map<String, Integer> met = new TreeMap<>();

    private Random random;
    private ProxyVersions object;
    private PlainModel model;
    private List<String> log;
    private double[] weights;
    private double wrongArguments;
    private int calls;

    public static void main(String[] args) throws ReflectiveOperationException {
        new ModelTest().runAll();
    }

    private void runAll() throws ReflectiveOperationException {
        for (int seed = 1; seed <= RUNS && checks.wrong() == 0; seed++) {
            run(seed);
        }
        for (String answer : TO_MEET) {
            checks.due("runs that met " + answer, met.containsKey(answer) ? 1 : 0, 1);
        }
        checks.end();
    }

    private static Map<String, Method> methodsOf(Class<?> type) {
        Map<String, Method> methods = new HashMap<>();
        for (Method method : type.getDeclaredMethods()) {
            if (java.lang.reflect.Modifier.isPublic(method.getModifiers())) {
                methods.put(method.getName(), method);
            }
        }
        return methods;
    }

    private void run(int seed) throws ReflectiveOperationException {
        random = new Random(seed);
        object = new ProxyVersions();
        model = new PlainModel();
        log = new ArrayList<>();
        calls = 0;
        wrongArguments = random.nextInt(3) == 0 ? 0.1 : 0.01;
        weights = new double[CHANGES.length];
        for (int i = 0; i < weights.length; i++) {
            weights[i] = Math.pow(10, random.nextDouble() * 2 - 1);
        }
        weights[3] += 3;
        weights[4] += 5;
        weights[8] *= 0.2;
        double questions = 0.1 + 0.5 * random.nextDouble();
        double scripts = random.nextInt(3) == 0 ? 0.05 : 0.003;
        prepare();
        while (calls < CALLS && checks.wrong() == 0) {
            if (random.nextDouble() < scripts) {
                script();
            } else if (random.nextDouble() < questions) {
                call(QUESTIONS[questionIndex()]);
            } else {
                call(CHANGES[drawChange()]);
            }
        }
        if (checks.wrong() > 0) {
            System.out.println("seed " + seed + ": " + String.join("; ", log));
        }
    }

    private void prepare() throws ReflectiveOperationException {
        int proxies = random.nextInt(8);
        for (int i = 0; i < proxies; i++) {
            call("addProxy", random.nextInt(2) == 0 ? count(0) - 1 : random.nextInt(count(0)));
        }
        for (int origin = 0; origin < 4; origin++) {
            if (random.nextBoolean()) {
                call("setHome", origin, random.nextInt(count(0)));
            }
        }
        if (random.nextInt(3) > 0) {
            call("setLimits", random.nextInt(9), 1 + random.nextInt(random.nextBoolean() ? 3 : 12));
        }
    }

    /** The calls that change the text come seldom: script() makes the texts that are worth a run. */
    private int questionIndex() {
        int all = QUESTIONS.length;
        return random.nextInt(10) == 0 ? random.nextInt(all) : random.nextInt(all - 3);
    }

    private int drawChange() {
        double sum = 0;
        for (double weight : weights) {
            sum += weight;
        }
        double left = random.nextDouble() * sum;
        for (int i = 0; i < weights.length; i++) {
            left -= weights[i];
            if (left < 0) {
                return i;
            }
        }
        return 0;
    }

    private int count(int what) {
        return model.count(what);
    }

    private int proxy() {
        int proxies = count(0);
        if (random.nextDouble() < wrongArguments) {
            return odd(proxies);
        }
        return random.nextInt(proxies);
    }

    private int child() {
        int proxies = count(0);
        if (proxies == 1 || random.nextDouble() < wrongArguments) {
            return odd(proxies);
        }
        return 1 + random.nextInt(proxies - 1);
    }

    private int upTo(int least, int greatest) {
        if (random.nextDouble() < wrongArguments) {
            return random.nextBoolean() ? least - 1 : odd(greatest + 1);
        }
        return least + random.nextInt(greatest - least + 1);
    }

    private int odd(int end) {
        int[] odds = {-1, -2, 0, end, end + 1, Integer.MIN_VALUE, Integer.MAX_VALUE, 1 << 30, -(1 << 30), 1000};
        return odds[random.nextInt(odds.length)];
    }

    private int version(int origin) {
        int written = 0;
        while (origin >= 0 && origin < 4 && written < 24 && model.cause(origin, written + 1, 0) != -1) {
            written++;
        }
        return written == 0 ? upTo(0, 1) : upTo(1, written);
    }

    private void call(String name) throws ReflectiveOperationException {
        int origin = upTo(0, 3);
        switch (name) {
            case "addProxy": call(name, proxy()); break;
            case "setHome": call(name, origin, proxy()); break;
            case "setLimits": call(name, upTo(0, 8), upTo(1, 12)); break;
            case "proxy": call(name, proxy(), upTo(0, 7)); break;
            case "count": call(name, upTo(0, 8)); break;
            case "write": call(name, origin); break;
            case "cause": call(name, origin, version(origin), upTo(0, 3)); break;
            case "deliver":
            case "lose": call(name, child(), upTo(0, 1), upTo(1, random.nextBoolean() ? 3 : 9)); break;
            case "queued": call(name, child(), upTo(0, 1), upTo(-1, 12)); break;
            case "exception": call(name, proxy(), origin, upTo(-1, 5)); break;
            case "bound":
            case "served": call(name, proxy(), origin); break;
            case "status":
            case "missing":
            case "read": call(name, proxy(), origin, version(origin)); break;
            case "kept": call(name, proxy(), upTo(0, 14)); break;
            case "ask": call(name, child()); break;
            case "covers": call(name, proxy(), proxy()); break;
            case "appendCharacter": call(name, upTo(0, 255)); break;
            default: call(name, new int[0]);
        }
    }

    private void script() throws ReflectiveOperationException {
        StringBuilder text = new StringBuilder();
        int length = random.nextInt(10) == 0 ? 101 : random.nextInt(60);
        while (text.length() < length) {
            char letter = "wudxyaudd".charAt(random.nextInt(9));
            int end = letter == 'w' ? 4 : count(0);
            int least = letter == 'w' || letter == 'a' ? 0 : 1;
            text.append(letter).append(spaces());
            text.append((char) ('0' + least + random.nextInt(Math.max(end - least, 1)))).append(spaces());
            if (letter != 'w' && letter != 'a') {
                text.append((char) ('1' + random.nextInt(9))).append(spaces());
            }
        }
        if (text.length() > 0 && random.nextInt(4) == 0) {
            int spoilt = random.nextInt(text.length());
            char any = (char) random.nextInt(256);
            text.setCharAt(spoilt, random.nextBoolean() ? any : "w09 8ud".charAt(random.nextInt(7)));
        }
        for (int i = 0; i < text.length() && calls < CALLS - 2; i++) {
            call("appendCharacter", (int) text.charAt(i));
        }
        call("runScript", new int[0]);
    }

    private String spaces() {
        return "   ".substring(random.nextInt(8) == 0 ? random.nextInt(3) : 3);
    }

    private void call(String name, int... arguments) throws ReflectiveOperationException {
        if (calls >= CALLS) {
            return;
        }
        calls++;
        Object[] boxed = new Object[arguments.length];
        StringBuilder said = new StringBuilder(name).append('(');
        for (int i = 0; i < boxed.length; i++) {
            boxed[i] = arguments[i];
            said.append(i == 0 ? "" : ", ").append(arguments[i]);
        }
        said.append(')');
        int due = (Integer) plain.get(name).invoke(model, boxed);
        int got = (Integer) real.get(name).invoke(object, boxed);
        log.add(said + " = " + got);
        met.merge(name + " " + due, 1, Integer::sum);
        checks.due(said.toString(), got, due);
    }
}

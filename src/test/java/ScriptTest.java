/** Promises 22 to 24: appendCharacter, clearText, runScript. */
public final class ScriptTest {
    private static final Checks CHECKS = new Checks();

    public static void main(String[] args) {
        appendCharacter();
        clearText();
        commands();
        skipped();
        spaces();
        errors();
        lastDigits();
        wrongKeepsAll();
        savedOnce();
        CHECKS.end();
    }

    private static void due(String call, int got, int due) {
        CHECKS.due(call, got, due);
    }

    private static void type(ProxyVersions x, String text) {
        for (int i = 0; i < text.length(); i++) {
            x.appendCharacter(text.charAt(i));
        }
    }

    private static int run(ProxyVersions x, String text) {
        type(x, text);
        return x.runScript();
    }

    private static ProxyVersions withProxies(int proxies) {
        ProxyVersions x = new ProxyVersions();
        for (int number = 1; number < proxies; number++) {
            x.addProxy(number - 1);
        }
        return x;
    }

    private static void appendCharacter() {
        ProxyVersions x = new ProxyVersions();
        due("appendCharacter(0)", x.appendCharacter(0), 1);
        due("appendCharacter(255)", x.appendCharacter(255), 2);
        due("appendCharacter(256)", x.appendCharacter(256), -1);
        due("appendCharacter(-1)", x.appendCharacter(-1), -1);
        due("appendCharacter(greatest)", x.appendCharacter(Integer.MAX_VALUE), -1);
        for (int length = 3; length <= 100; length++) {
            due("appendCharacter(32)", x.appendCharacter(' '), length);
        }
        due("the text is full", x.appendCharacter(' '), -3);
        due("the argument comes first", x.appendCharacter(256), -1);
        due("nothing is saved", x.count(8), 0);
        due("clearText()", x.clearText(), 100);
        due("there is room again", x.appendCharacter('w'), 1);
    }

    private static void clearText() {
        ProxyVersions x = new ProxyVersions();
        due("clearText() of nothing", x.clearText(), 0);
        type(x, "w0");
        due("clearText()", x.clearText(), 2);
        due("clearText() again", x.clearText(), 0);
        due("the text is empty", run(x, ""), 0);
        due("nothing was written", x.count(3), 0);
    }

    private static void commands() {
        ProxyVersions x = withProxies(3);
        x.setHome(3, 1);
        due("writes", run(x, "w0w0w0w3"), 4);
        due("written", x.count(3), 4);
        due("301 goes down", x.queued(2, 1, 0), 301);
        due("d12: two of the down queue", run(x, "d12"), 1);
        due("bound(1, 0)", x.bound(1, 0), 2);
        due("u11: the up queue", run(x, "u11"), 1);
        due("bound(0, 3)", x.bound(0, 3), 1);
        due("y29: the down queue of 2 is lost", run(x, "y29"), 1);
        due("lost", x.count(6), 3);
        run(x, "w3");
        due("x19: the up queue is lost", run(x, "x19"), 1);
        due("lost then", x.count(6), 4);
        due("the up queue is empty", x.queued(1, 0, -1), 0);
        due("the down queue is not", x.queued(1, 1, 0), 3);
        due("bound(0, 3) as before", x.bound(0, 3), 1);
        due("2 learns 302, then asks for 301", run(x, "d21a2"), 2);
        due("exception(2, 3, 0)", x.exception(2, 3, 0), -9);
        due("bound(2, 3)", x.bound(2, 3), 2);
    }

    private static void skipped() {
        ProxyVersions x = withProxies(2);
        due("nothing to be done", run(x, "a0a1u11d11x11y11"), 0);
        due("it is saved all the same", x.count(8), 2);
        StringBuilder writes = new StringBuilder();
        for (int version = 1; version <= 25; version++) {
            writes.append("w0");
        }
        due("the 25th is skipped", run(x, writes.toString()), 24);
        due("a delivery that teaches nothing is none to skip", learnNothing(), 1);
    }

    private static int learnNothing() {
        ProxyVersions x = withProxies(2);
        x.setLimits(0, 12);
        run(x, "w0w0y11");
        int done = run(x, "d11");
        due("refused", x.count(4), 1);
        return done;
    }

    private static void spaces() {
        ProxyVersions x = withProxies(2);
        due("only spaces", run(x, "   "), 0);
        due("everywhere", run(x, "  w  0 w0  d  1  2 "), 3);
        due("served(1, 0)", x.served(1, 0), 2);
        due("a tab is no space", run(x, "w0\t"), -12);
        x.clearText();
        due("the end inside of a command, behind spaces", run(x, "w0 d 1  "), -18);
    }

    private static void errors() {
        String[] texts = {
            "z", "W0", "0", "w", "w4", "w0w", "w/", "w:", "u", "u0", "u3", "u1", "u10", "u1/", "u1:", "d2", "d29", "x0",
            "y1w", "a", "a3", "a/", "w0a1u", "u 1 0", " ~", "w0;w0", "\0", "w0w0w0w0w0\u00ff"
        };
        int[] offsets = {
            0, 0, 0, 1, 1, 3, 1, 1, 1, 1, 1, 2, 2, 2, 2, 2, -1, 1,
            2, 1, 1, 1, 5, 4, 1, 2, 0, 10
        };
        // with three proxies 2 is a child: "d29" is a script
        ProxyVersions x = withProxies(3);
        for (int i = 0; i < texts.length; i++) {
            due("the text '" + texts[i] + "'", run(x, texts[i]), offsets[i] < 0 ? 0 : -10 - offsets[i]);
            x.clearText();
        }
        due("with the root alone there is no child", run(new ProxyVersions(), "u1"), -11);
        due("and one to ask, which is skipped", run(new ProxyVersions(), "a0"), 0);
        StringBuilder full = new StringBuilder();
        for (int i = 0; i < 49; i++) {
            full.append("w0");
        }
        due("the end of a full text", run(new ProxyVersions(), full + "w0"), 24);
        due("the last place of a full text", run(new ProxyVersions(), full + "0w"), -108);
        due("behind a full text", run(new ProxyVersions(), full + " w"), -110);
    }

    private static void lastDigits() {
        ProxyVersions x = withProxies(8);
        due("w3", run(x, "w3"), 1);
        due("a7", run(x, "a7"), 0);
        due("a8", run(x, "a8"), -11);
        x.clearText();
        due("d79", run(x, "d79"), 0);
        due("d89", run(x, "d89"), -11);
    }

    private static void wrongKeepsAll() {
        Twins twins = new Twins(CHECKS, () -> {
            ProxyVersions x = withProxies(2);
            x.write(0);
            type(x, "w0d1 1w4");
            return x;
        });
        twins.refuse("runScript() of a text that is none", ProxyVersions::runScript, -17);
        ProxyVersions x = withProxies(2);
        due("a text without its end", run(x, "w0d1"), -14);
        x.appendCharacter('1');
        due("which comes then", x.runScript(), 2);
        due("the text is empty then", x.clearText(), 0);
    }

    private static void savedOnce() {
        ProxyVersions x = withProxies(2);
        due("run", run(x, "w0w0w0d12"), 4);
        due("one state for all of it", x.count(8), 2);
        type(x, "w1");
        due("undo()", x.undo(), 1);
        due("count(3)", x.count(3), 0);
        due("queued(1, 1, -1)", x.queued(1, 1, -1), 0);
        due("the text is not a part of the state", x.clearText(), 2);
    }
}

/** Tests of the sentences under "Text" and Promises 22 to 24: appendCharacter, clearText, runScript. */
final class TextSentences {
    private static final String FORTY_NINE_WRITES = "w0".repeat(24) + "w1".repeat(24) + "w2";

    private TextSentences() {
    }

    static void tell(Sentences s) {
        s.under("Text");
        text(s);
        deliveries(s);
        losses(s);
        digits(s);
        spaces(s);
        errorPositions(s);
        order(s);
        s.under("Promise 22: appendCharacter");
        appendCharacter(s);
        s.under("Promise 23: clearText");
        clearText(s);
        s.under("Promise 24: runScript");
        runScript(s);
    }

    /** The text is a script or not, with the answer that is due. */
    private static void due(Checks c, int proxies, String text, int due) {
        c.due("with " + proxies + " proxies '" + text + "'", Scenes.run(Scenes.line(proxies), text), due);
    }

    private static void text(Sentences s) {
        s.says("A script is read from a text of at most 100 characters", c -> {
            due(c, 1, FORTY_NINE_WRITES + "w3", 50);
            ProxyVersions x = Scenes.type(new ProxyVersions(), FORTY_NINE_WRITES + " ");
            c.due("the hundredth", x.appendCharacter('w'), 100);
            c.due("one more", x.appendCharacter('3'), -3);
            c.due("runScript()", x.runScript(), -110);
            c.due("clearText()", x.clearText(), 100);
        }).brokenBy("TEXT_ROOM = 100;", "TEXT_ROOM = 99;").brokenBy("TEXT_ROOM = 100;", "TEXT_ROOM = 101;");
        s.says("which is built one character at a time", c -> {
            ProxyVersions x = new ProxyVersions();
            c.due("'w'", x.appendCharacter('w'), 1);
            c.due("runScript()", x.runScript(), -11);
            c.due("'0'", x.appendCharacter('0'), 2);
            c.due("runScript()", x.runScript(), 1);
            c.due("count(3)", x.count(3), 1);
        }).brokenBy("public int appendCharacter(", "text.append(character)", "text.append('w')");
        s.says("a sequence of commands", c -> due(c, 3, "w0w1d11u11y11x21a2", 4))
                .brokenBy("private boolean takeSign(", "return takeLetter(sign);",
                        "return letters.length() == 0 && takeLetter(sign);");
        s.says("perhaps none:", c -> {
            due(c, 1, "", 0);
            due(c, 2, " ", 0);
        }).brokenBy("if (error != Script.NO_ERROR) {", "if (error != Script.NO_ERROR || script.length() == 0) {");
        s.says("\"w\" ORIGIN a write", c -> {
            ProxyVersions x = new ProxyVersions();
            c.due("'w2w0w2'", Scenes.run(x, "w2w0w2"), 3);
            c.due("bound(0, 2)", x.bound(0, 2), 2);
            c.due("bound(0, 0)", x.bound(0, 0), 1);
            c.due("count(3)", x.count(3), 3);
        }).brokenBy("network.makeWrite(number)", "network.makeWrite(0)")
                .brokenBy("case 'w': return network.makeWrite(number);", "case 'w': return 0;");
        s.says("\"a\" PROXY asks upward, as ask()", c -> {
            ProxyVersions x = Scenes.give(Scenes.line(3), 0, "01");
            c.due("'a1'", Scenes.run(x, "a1"), 1);
            c.due("served(1, 0)", x.served(1, 0), 2);
            ProxyVersions refused = Scenes.give(Scenes.line(3), 0, "001");
            refused.setLimits(0, 12);
            c.due("that refuses is carried out", Scenes.run(refused, "a1"), 1);
            c.due("refused", refused.count(4), 2);
            c.due("'a0', as the root can't ask", Scenes.run(x, "a0"), 0);
        }).brokenBy("case 'a': return network.askUpward(number);", "case 'a': return 0;")
                .brokenBy("case 'a': return network.askUpward(number);",
                        "case 'a': return network.askUpward(number) > 0 ? 1 : NONE;");
    }

    /** Three proxies in a line; two updates wait in each queue of 1. */
    private static ProxyVersions waiting() {
        ProxyVersions x = Scenes.line(3);
        x.setHome(1, 1);
        Scenes.write(x, 0, 3);
        Scenes.write(x, 1, 3);
        return x;
    }

    private static void deliveries(Sentences s) {
        s.says("\"u\" CHILD COUNT delivers updates from the up queue of a child, as deliver()", c -> {
            ProxyVersions x = waiting();
            c.due("'u12'", Scenes.run(x, "u12"), 1);
            c.due("bound(0, 1)", x.bound(0, 1), 2);
            c.due("left in the up queue", x.queued(1, 0, -1), 1);
            c.due("left in the down queue", x.queued(1, 1, -1), 3);
            c.due("lost", x.count(6), 0);
        }).brokenBy("case 'u': return network.deliverFirst(number, UP, count);",
                "case 'u': return network.deliverFirst(number, DOWN, count);")
                .brokenBy("case 'u': return network.deliverFirst(number, UP, count);",
                        "case 'u': return network.loseFirst(number, UP, count);")
                .brokenBy("case 'u': return network.deliverFirst(number, UP, count);",
                        "case 'u': return network.deliverFirst(number, UP, 9);");
        s.says("\"d\" CHILD COUNT likewise from its down queue", c -> {
            ProxyVersions x = waiting();
            c.due("'d12'", Scenes.run(x, "d12"), 1);
            c.due("bound(1, 0)", x.bound(1, 0), 2);
            c.due("left in the down queue", x.queued(1, 1, -1), 1);
            c.due("left in the up queue", x.queued(1, 0, -1), 3);
            c.due("'d29'", Scenes.run(x, "d29"), 1);
            c.due("2 gets what 1 knows", x.proxy(2, 3), 5);
        }).brokenBy("case 'd': return network.deliverFirst(number, DOWN, count);",
                "case 'd': return network.deliverFirst(number, UP, count);")
                .brokenBy("case 'd': return network.deliverFirst(number, DOWN, count);",
                        "case 'd': return network.deliverFirst(1, DOWN, count);");
    }

    private static void losses(Sentences s) {
        s.says("\"x\" CHILD COUNT loses updates of the up queue of a child, as lose()", c -> {
            ProxyVersions x = waiting();
            c.due("'x12'", Scenes.run(x, "x12"), 1);
            c.due("lost", x.count(6), 2);
            c.due("left in the up queue", x.queued(1, 0, 0), 103);
            c.due("left in the down queue", x.queued(1, 1, -1), 3);
            c.due("bound(0, 1)", x.bound(0, 1), 0);
        }).brokenBy("case 'x': return network.loseFirst(number, UP, count);",
                "case 'x': return network.loseFirst(number, DOWN, count);")
                .brokenBy("case 'x': return network.loseFirst(number, UP, count);",
                        "case 'x': return network.deliverFirst(number, UP, count);");
        s.says("\"y\" CHILD COUNT likewise of its down queue", c -> {
            ProxyVersions x = waiting();
            c.due("'y12'", Scenes.run(x, "y12"), 1);
            c.due("lost", x.count(6), 2);
            c.due("left in the down queue", x.queued(1, 1, 0), 3);
            c.due("left in the up queue", x.queued(1, 0, -1), 3);
            c.due("bound(1, 0)", x.bound(1, 0), 0);
        }).brokenBy("case 'y': return network.loseFirst(number, DOWN, count);",
                "case 'y': return network.loseFirst(number, UP, count);")
                .brokenBy("case 'y': return network.loseFirst(number, DOWN, count);",
                        "case 'y': return network.deliverFirst(number, DOWN, count);");
    }

    private static void digits(Sentences s) {
        s.says("ORIGIN is a digit 0 to 3", c -> {
            for (int proxies : new int[] {1, 8}) {
                due(c, proxies, "w/", -11);
                due(c, proxies, "w0", 1);
                due(c, proxies, "w3", 1);
                due(c, proxies, "w4", -11);
                due(c, proxies, "w:", -11);
            }
        }).brokenBy("letter == 'w' ? ORIGINS : proxies", "proxies").brokenBy("? ORIGINS : proxies", "? 5 : proxies");
        s.says("COUNT a digit 1 to 9", c -> {
            due(c, 2, "d1/", -12);
            due(c, 2, "d10", -12);
            due(c, 2, "d11", 0);
            due(c, 2, "d19", 0);
            due(c, 2, "d1:", -12);
            ProxyVersions x = Scenes.write(Scenes.star(1), 0, 12);
            c.due("'d19'", Scenes.run(x, "d19") + 10 * x.bound(1, 0), 91);
            c.due("'y11'", Scenes.run(x, "y11") + 10 * x.count(6), 11);
        }).brokenBy("private boolean takeCount(", "count >= 1", "count >= 0")
                .brokenBy("private boolean takeCount(", "count >= 1", "count >= 2")
                .brokenBy("private boolean takeCount(", "count <= MAX_TAKEN", "count < MAX_TAKEN")
                .brokenBy("private boolean takeCount(", "count <= MAX_TAKEN", "count <= MAX_TAKEN + 1");
        s.says("CHILD a digit that is the number of a proxy but not of the root", c -> {
            for (String letter : new String[] {"u", "d", "x", "y"}) {
                due(c, 1, letter + "1", -11);
                due(c, 3, letter + "01", -11);
                due(c, 3, letter + "11", 0);
                due(c, 3, letter + "21", 0);
                due(c, 3, letter + "31", -11);
                due(c, 3, letter + "/1", -11);
                due(c, 8, letter + "71", 0);
                due(c, 8, letter + "81", -11);
            }
        }).brokenBy("namesQueue(letter) ? 1 : 0", "0")
                .brokenBy("private boolean takeNumber(", "number >= end", "number > end")
                .brokenBy("private boolean takeNumber(", "number >= end", "number >= end - 1")
                .brokenBy("private static boolean namesQueue(", "|| letter == 'y'", "");
        s.says("PROXY a digit that is the number of a proxy.", c -> {
            due(c, 1, "a0", 0);
            due(c, 1, "a1", -11);
            due(c, 3, "a0", 0);
            due(c, 3, "a2", 0);
            due(c, 3, "a3", -11);
            due(c, 3, "a/", -11);
            due(c, 8, "a7", 0);
            due(c, 8, "a8", -11);
            due(c, 8, "a:", -11);
        }).brokenBy("letter == 'w' ? ORIGINS : proxies", "ORIGINS")
                .brokenBy("namesQueue(letter) ? 1 : 0", "letter == 'w' ? 0 : 1")
                .brokenBy("private boolean takeNumber(", "number < least", "number < least - 1");
    }

    private static void spaces(Sentences s) {
        s.says("Spaces (code 32) may stand everywhere.", c -> {
            due(c, 2, "   w  0  w 1d   1  1  ", 3);
            due(c, 2, " w0", 1);
            due(c, 2, "w 0", 1);
            due(c, 2, "w0d 11", 2);
            due(c, 2, "w0d1 1", 2);
            due(c, 2, "w0 ", 1);
            due(c, 2, " ".repeat(100), 0);
            due(c, 2, "w0\t", -12);
            due(c, 2, "w0\0", -12);
            due(c, 2, "w0\u00a0", -12);
        }).brokenBy("int parse(", "sign != ' '", "(sign != ' ' || offset == 0)")
                .brokenBy("int parse(", "sign != ' '", "(sign != ' ' || counts.length() < letters.length())")
                .brokenBy("int parse(", "sign != ' '", "sign > ' '")
                .brokenBy("int parse(", "sign != ' '", "sign != ' ' && sign != 160");
    }

    private static void errorPositions(Sentences s) {
        s.says("The text is read from left to right.", c -> {
            due(c, 2, "0w", -10);
            due(c, 2, "w9z", -11);
            due(c, 2, "w0zd0", -12);
        }).brokenBy("int parse(", "text.at(offset)", "text.at(text.length() - 1 - offset)");
        s.says("the offset (from 0) of the first character that is not allowed where it stands;", c -> {
            due(c, 2, "z", -10);
            due(c, 2, "1", -10);
            due(c, 2, "W0", -10);
            due(c, 2, "ww0", -11);
            due(c, 2, "  w  4", -15);
            due(c, 2, "w0u1w0", -14);
            due(c, 2, "w01", -12);
            due(c, 2, "w0\u00ff", -12);
            due(c, 2, FORTY_NINE_WRITES + "0w", -108);
            due(c, 2, FORTY_NINE_WRITES + "w4", -109);
        }).brokenBy("SCRIPT_ERROR - error", "SCRIPT_ERROR - error - 1")
                .brokenBy("int parse(", "return offset;", "return 0;")
                .brokenBy("private boolean takeSign(", "return takeLetter(sign);",
                        "return takeLetter(sign == 'W' ? 'w' : sign);")
                .brokenBy("SCRIPT_ERROR = -10;", "SCRIPT_ERROR = -9;");
        s.says("if the text ends inside of a command, it is the length of the text.", c -> {
            for (String letter : new String[] {"w", "a", "u", "d", "x", "y"}) {
                due(c, 2, letter, -11);
                due(c, 2, "w0" + letter + " ", -14);
            }
            due(c, 2, "u1", -12);
            due(c, 2, "y 1  ", -15);
            due(c, 2, FORTY_NINE_WRITES + "d1", -110);
            due(c, 2, FORTY_NINE_WRITES + " a", -110);
        }).brokenBy("int parse(", "NO_ERROR : text.length()", "NO_ERROR : text.length() - 1")
                .brokenBy("int parse(", "counts.length() == letters.length() ? NO_ERROR", "true ? NO_ERROR")
                .brokenBy("int parse(", "counts.length() == letters.length() ? NO_ERROR",
                        "numbers.length() == letters.length() ? NO_ERROR");
    }

    private static void order(Sentences s) {
        s.says("The commands are carried out in their order;", c -> {
            ProxyVersions x = Scenes.line(2);
            c.due("'d11w0'", Scenes.run(x, "d11w0"), 1);
            c.due("nothing was there to deliver", x.queued(1, 1, -1), 1);
            ProxyVersions y = Scenes.line(2);
            c.due("'w0d11w0y11w0d11a1'", Scenes.run(y, "w0d11w0y11w0d11a1"), 7);
            c.due("served(1, 0)", y.served(1, 0), 3);
            c.due("kept(1, 1)", y.kept(1, 1), 3);
            c.due("kept(1, 2)", y.kept(1, 2), 2);
        }).brokenBy("public int runScript(", "int index = 0; index < script.length(); index++",
                "int index = script.length() - 1; index >= 0; index--");
        s.says("a command whose method would return an error code", c -> {
            due(c, 2, "u11", 0);
            due(c, 2, "d11x11y11w0", 1);
            due(c, 2, "a0w0", 1);
            ProxyVersions x = Scenes.write(Scenes.line(2), 0, 24);
            c.due("'w0w1', without room for the first", Scenes.run(x, "w0w1"), 1);
            c.due("count(3)", x.count(3), 25);
        }).brokenBy("public int runScript(", ">= 0) {", ">= CAPACITY_EXCEEDED) {")
                .brokenBy("public int runScript(", "carriedOut++; }", "carriedOut++; } else { break; }");
        s.says("or NONE is skipped.", c -> {
            due(c, 2, "a1", 0);
            due(c, 2, "a1w0a1w0a1", 2);
            ProxyVersions x = Scenes.line(2);
            x.setLimits(0, 12);
            c.due("an answer of 0 is not skipped", Scenes.run(x, "w0w0y11d11"), 4);
        }).brokenBy("public int runScript(", ">= 0) {", ">= 0 || script.letterAt(index) == 'a') {")
                .brokenBy("public int runScript(", ">= 0) {", "> 0) {");
    }

    private static void appendCharacter(Sentences s) {
        s.says("Appends a character to the text.", c -> {
            ProxyVersions x = new ProxyVersions();
            Scenes.type(x, "w0w");
            c.due("appendCharacter('3')", x.appendCharacter('3'), 4);
            c.due("runScript()", x.runScript(), 2);
            c.due("bound(0, 3)", x.bound(0, 3), 1);
        }).brokenBy("public int appendCharacter(", "text.append(character)", "text.append('0')");
        s.says("`character`: character code, 0 to 255", c -> {
            int[] characters = {0, 1, 32, 127, 128, 254, 255};
            ProxyVersions x = new ProxyVersions();
            for (int index = 0; index < characters.length; index++) {
                c.due("appendCharacter(" + characters[index] + ")", x.appendCharacter(characters[index]), index + 1);
            }
        }).brokenBy("public int appendCharacter(", "character < 0", "character <= 0")
                .brokenBy("MAX_CHARACTER = 255;", "MAX_CHARACTER = 254;");
        s.says("Returns the new length of the text;", c -> {
            ProxyVersions x = new ProxyVersions();
            for (int length = 1; length <= 100; length++) {
                c.due("appendCharacter(" + length + ")", x.appendCharacter(length), length);
            }
            x.clearText();
            c.due("after clearText()", x.appendCharacter('z'), 1);
        }).brokenBy("public int appendCharacter(", "? text.length()", "? text.length() - 1");
        s.says("INVALID_ARGUMENT if character is out of range;", c ->
            Scenes.wrong(c, () -> Scenes.type(Scenes.line(2), "w0"), "appendCharacter(#)",
                    (x, n) -> x.appendCharacter(n), -1, 256, -32, 256 + 'w'))
                .brokenBy("MAX_CHARACTER = 255;", "MAX_CHARACTER = 256;")
                .brokenBy("public int appendCharacter(", "character < 0", "character < -1")
                .brokenBy("public int appendCharacter(", "return INVALID_ARGUMENT;", "return CAPACITY_EXCEEDED;");
        s.says("CAPACITY_EXCEEDED if the text has 100 characters.", c -> {
            Twins twins = new Twins(c, () -> Scenes.type(Scenes.line(2), " ".repeat(100)));
            twins.refuse("appendCharacter(32)", x -> x.appendCharacter(32), -3);
            twins.refuse("appendCharacter(255)", x -> x.appendCharacter(255), -3);
            c.due("with 99", Scenes.type(new ProxyVersions(), " ".repeat(99)).appendCharacter(32), 100);
        }).brokenBy("public int appendCharacter(", ": CAPACITY_EXCEEDED", ": ILLEGAL_STATE")
                .brokenBy("public int appendCharacter(", ": CAPACITY_EXCEEDED", ": text.length()")
                .brokenBy("boolean append(", "size >= cells.length", "size >= cells.length - 1");
    }

    private static void clearText(Sentences s) {
        s.says("Makes the text empty.", c -> {
            ProxyVersions x = Scenes.type(new ProxyVersions(), "w0w1");
            x.clearText();
            c.due("clearText() again", x.clearText(), 0);
            c.due("runScript()", x.runScript(), 0);
            c.due("count(3)", x.count(3), 0);
            x.appendCharacter('w');
            c.due("nothing is left of it", x.appendCharacter('2') + 10 * x.runScript() + 100 * x.bound(0, 2), 112);
        }).brokenBy("public int clearText(", "text.clear();", "").brokenBy("public int clearText(", "text.clear();",
                "text.removeAt(0);");
        s.says("Returns the previous length of the text.", c -> {
            for (int length : new int[] {0, 1, 2, 99, 100}) {
                c.due("clearText()", Scenes.type(new ProxyVersions(), "z".repeat(length)).clearText(), length);
            }
        }).brokenBy("public int clearText(", "return previous;", "return text.length();");
    }

    private static void runScript(Sentences s) {
        s.says("Carries out the text as a script.", c -> {
            ProxyVersions x = Scenes.line(3);
            c.due("runScript()", Scenes.run(x, "w0w0w0d11y11d11a1d29u11x11"), 8);
            c.due("served(1, 0)", x.served(1, 0), 3);
            c.due("served(2, 0)", x.served(2, 0), 3);
            c.due("count(6)", x.count(6), 1);
        }).brokenBy("int parse(", "counts.clear();", "counts.clear(); proxies = 2;")
                .brokenBy("public int runScript(", "index < script.length()", "index < script.length() - 3");
        s.says("The text becomes empty.", c -> {
            ProxyVersions x = new ProxyVersions();
            Scenes.run(x, "w0w0");
            c.due("clearText()", x.clearText(), 0);
            ProxyVersions skipped = new ProxyVersions();
            c.due("with all commands skipped", Scenes.run(skipped, "a0 "), 0);
            c.due("clearText()", skipped.clearText(), 0);
        }).brokenBy("public int runScript(", "text.clear();", "")
                .brokenBy("public int runScript(", "return carriedOut;",
                "if (carriedOut == 0) { text.append(' '); } return carriedOut;");
        s.says("Returns the number of commands that were not skipped;", c -> {
            due(c, 2, "w0d11d11", 2);
            due(c, 2, "w0", 1);
            due(c, 2, "a1u11", 0);
        }).brokenBy("public int runScript(", "return carriedOut;", "return script.length();");
        s.says("-10 minus the error position if the text is not a script", c -> {
            due(c, 2, "0", -10);
            due(c, 2, "w0z", -12);
            due(c, 2, "w", -11);
        }).brokenBy("SCRIPT_ERROR - error", "SCRIPT_ERROR + error")
                .brokenBy("SCRIPT_ERROR - error", "INVALID_ARGUMENT");
        s.says("(then nothing changes, and the text is kept).", c -> {
            Twins twins = new Twins(c, () -> Scenes.type(Scenes.write(Scenes.line(2), 0, 1), "w0d11w1 w4"));
            twins.refuse("runScript()", ProxyVersions::runScript, -19);
            ProxyVersions x = Scenes.line(2);
            c.due("a text without its end", Scenes.run(x, "w0d1"), -14);
            c.due("to which the end comes", Scenes.run(x, "1"), 2);
        }).brokenBy("public int runScript(", "return SCRIPT_ERROR", "text.clear(); return SCRIPT_ERROR")
                .brokenBy("public int runScript(", "return SCRIPT_ERROR", "network.makeWrite(0); return SCRIPT_ERROR")
                .brokenBy("public int runScript(", "int error =",
                        "history.stage(state); history.commit(); int error =");
    }
}

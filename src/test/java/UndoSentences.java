import java.util.function.Supplier;
import java.util.function.ToIntFunction;

/** Tests of the sentences under "Undo", "Errors" and Promise 25: undo. */
final class UndoSentences {
    private UndoSentences() {
    }

    static void tell(Sentences s) {
        s.under("Undo");
        savedCalls(s);
        savedRuns(s);
        everything(s);
        sixStates(s);
        s.under("Errors");
        errors(s);
        constants(s);
        s.under("Promise 25: undo");
        undo(s);
    }

    /** With the limits 8 and 1, 1 knows version 1 and 3 of origin 0, and 2 has written 101; five states are saved. */
    private static ProxyVersions busy() {
        ProxyVersions x = Scenes.line(3);
        x.setHome(1, 2);
        x.setLimits(8, 1);
        Scenes.run(x, "w0w0w0d11y11d11w1");
        return x;
    }

    /** The call succeeds and saves the state that it found. */
    private static void saves(Checks c, Supplier<ProxyVersions> scene, String call, ToIntFunction<ProxyVersions> made,
            int due) {
        ProxyVersions x = scene.get();
        String before = Twins.lookAt(x);
        int saved = x.count(8);
        c.due(call, made.applyAsInt(x), due);
        c.due("saved states after " + call, x.count(8), saved + 1);
        c.due("undo() after " + call, x.undo(), saved);
        c.due("what can be asked after " + call + "; undo()", Twins.lookAt(x), before);
    }

    private static void savedCalls(Sentences s) {
        s.says("Every successful call of addProxy()", c ->
            saves(c, UndoSentences::busy, "addProxy(2)", x -> x.addProxy(2), 3))
                .brokenBy("return commitIfDone(network.insertProxy(parent));", "return network.insertProxy(parent);")
                .brokenBy("public int addProxy(", "history.stage(state);", "");
        s.says("setHome()", c -> {
            saves(c, UndoSentences::busy, "setHome(3, 1)", x -> x.setHome(3, 1), 0);
            saves(c, UndoSentences::busy, "setHome(3, 0), which changes nothing", x -> x.setHome(3, 0), 0);
            ProxyVersions x = Scenes.line(3);
            x.setHome(2, 1);
            x.setHome(2, 2);
            c.due("undo()", x.undo(), 3);
            c.due("the home before", x.setHome(2, 0), 1);
        }).brokenBy("return commitIfDone(network.changeHome(origin, proxy));",
                "return network.changeHome(origin, proxy);");
        s.says("setLimits()", c -> {
            saves(c, UndoSentences::busy, "setLimits(3, 4)", x -> x.setLimits(3, 4), 1);
            saves(c, UndoSentences::busy, "setLimits(8, 1), which changes nothing", x -> x.setLimits(8, 1), 0);
        }).brokenBy("return commitIfDone(network.changeLimits(ranges, memory));",
                "return network.changeLimits(ranges, memory);")
                .brokenBy("return commitIfDone(network.changeLimits(ranges, memory));",
                        "int answer = network.changeLimits(ranges, memory);"
                                + " return answer == 0 ? 0 : commitIfDone(answer);");
        s.says("write()", c -> saves(c, UndoSentences::busy, "write(1)", x -> x.write(1), 2))
                .brokenBy("return commitIfDone(network.makeWrite(origin));", "return network.makeWrite(origin);");
        s.says("deliver()", c -> {
            saves(c, UndoSentences::busy, "deliver(2, 1, 9)", x -> x.deliver(2, 1, 9), 2);
            Supplier<ProxyVersions> refusing = () -> {
                ProxyVersions x = Scenes.line(2);
                x.setLimits(0, 1);
                Scenes.run(x, "w0w0y11");
                return x;
            };
            saves(c, refusing, "deliver(1, 1, 1), which refuses", x -> x.deliver(1, 1, 1), 0);
        }).brokenBy("return commitIfDone(network.deliverFirst(child, direction, count));",
                "return network.deliverFirst(child, direction, count);")
                .brokenBy("return commitIfDone(network.deliverFirst(child, direction, count));",
                        "int answer = network.deliverFirst(child, direction, count);"
                                + " return answer == 0 ? 0 : commitIfDone(answer);");
        s.says("lose()", c -> saves(c, UndoSentences::busy, "lose(2, 1, 9)", x -> x.lose(2, 1, 9), 2))
                .brokenBy("return commitIfDone(network.loseFirst(child, direction, count));",
                        "return network.loseFirst(child, direction, count);");
    }

    private static void savedRuns(Sentences s) {
        s.says("read()", c -> {
            Supplier<ProxyVersions> scene = () -> {
                ProxyVersions x = Scenes.line(2);
                x.setLimits(8, 1);
                Scenes.run(x, "w0w0d12");
                return x;
            };
            saves(c, scene, "read(1, 0, 1)", x -> x.read(1, 0, 1), 1);
            saves(c, scene, "read(1, 0, 2), which changes nothing", x -> x.read(1, 0, 2), 0);
        }).brokenBy("return commitIfDone(network.fetchContent(proxy, origin, version));",
                "return network.fetchContent(proxy, origin, version);")
                .brokenBy("return commitIfDone(network.fetchContent(proxy, origin, version));",
                        "int answer = network.fetchContent(proxy, origin, version);"
                                + " return answer == 0 ? 0 : commitIfDone(answer);");
        s.says("ask()", c -> {
            saves(c, UndoSentences::busy, "ask(1)", x -> x.ask(1), 1);
            saves(c, UndoSentences::busy, "ask(2), by which 1 alone learns", x -> x.ask(2), 0);
        }).brokenBy("return commitIfDone(network.askUpward(proxy));", "return network.askUpward(proxy);");
        s.says("and runScript()", c -> {
            saves(c, UndoSentences::busy, "runScript()", x -> Scenes.run(x, "w0a1d29w1"), 4);
            saves(c, UndoSentences::busy, "runScript() of an empty text", ProxyVersions::runScript, 0);
            saves(c, UndoSentences::busy, "runScript(), all skipped", x -> Scenes.run(x, "a0"), 0);
        }).brokenBy("public int runScript(", "history.commit();", "")
                .brokenBy("public int runScript(", "return carriedOut;",
                        "history.stage(state); history.commit(); return carriedOut;");
        s.says("saves the state that preceded it", c -> {
            ProxyVersions x = busy();
            String before = Twins.lookAt(x);
            x.undo();
            Scenes.run(x, "w0w0w0d11y11d11w1");
            c.due("the same calls lead to the same state", Twins.lookAt(x), before);
            ProxyVersions y = Scenes.line(2);
            for (int version = 1; version <= 5; version++) {
                y.write(0);
            }
            for (int version = 5; version >= 1; version--) {
                c.due("updates before undo()", y.count(3), version);
                y.undo();
            }
            c.due("updates before all of it", y.count(3), 0);
        }).brokenBy("public int runScript(", "history.stage(state);", "")
                .brokenBy("public int write(", "history.stage(state); return commitIfDone(network.makeWrite(origin));",
                        "int answer = network.makeWrite(origin); history.stage(state); return commitIfDone(answer);");
    }

    /** Two children with homes and limits set by one call each, before a script that changes all there is to change. */
    private static ProxyVersions beforeAll() {
        ProxyVersions x = Scenes.star(2);
        x.setHome(1, 1);
        x.setLimits(0, 1);
        return x;
    }

    private static void everything(Sentences s) {
        Sentences.Sentence sentence = s.says("which consists of everything", c -> {
            saves(c, UndoSentences::beforeAll, "addProxy(1)", x -> x.addProxy(1), 3);
            saves(c, UndoSentences::beforeAll, "setLimits(3, 5)", x -> x.setLimits(3, 5), 1);
            String script = "w0w0w0w0w0w0w0w0w0w0w0w0w0 w1 d12 y11 d11 u11 w1 d29";
            ProxyVersions x = beforeAll();
            Scenes.run(x, script);
            int[] due = {3, 0, 1, 15, 1, 3, 1, 11, 5};
            for (int what = 0; what < due.length; what++) {
                c.due("count(" + what + ") after the script", x.count(what), due[what]);
            }
            saves(c, UndoSentences::beforeAll, "runScript()", y -> Scenes.run(y, script), 20);
            x.undo();
            x.undo();
            c.due("the home before setLimits()", x.setHome(1, 2), 1);
            x.undo();
            x.undo();
            c.due("the home before setHome()", x.setHome(1, 2), 0);
        });
        String[] parts = {
            "proxies", "rangeLimit", "memory", "refusals", "overflows", "losses", "evictions"
        };
        for (String part : parts) {
            sentence.brokenBy("void copyFrom(State other) {", part + " = other." + part + ";", "");
        }
        for (String part : new String[] {"homes, 0, homes", "written, 0, written", "known, 0, known"}) {
            sentence.brokenBy("void copyFrom(State other) {", "System.arraycopy(other." + part,
                    "if (proxies < 0) System.arraycopy(other." + part);
        }
        for (String part : new String[] {"contents", "upQueues", "downQueues"}) {
            sentence.brokenBy("void copyFrom(State other) {",
                    part + "[proxy].copyFrom(other." + part + "[proxy]);", "");
        }
        s.says("everything", c -> {
            ProxyVersions x = Scenes.star(7);
            x.setHome(3, 7);
            x.write(3);
            c.due("the last proxy learns", x.deliver(7, 0, 1), 1);
            x.write(0);
            c.due("the last proxy learns", x.deliver(7, 1, 1), 1);
            c.due("bound(7, 0)", x.bound(7, 0), 1);
            x.undo();
            c.due("bound(7, 0) before", x.bound(7, 0), 0);
            c.due("kept(7, 1) before", x.kept(7, 1), -9);
            c.due("queued(7, 1, 0) before", x.queued(7, 1, 0), 1);
            x.undo();
            x.undo();
            c.due("queued(7, 0, 0) before", x.queued(7, 0, 0), 301);
            c.due("bound(0, 3) before", x.bound(0, 3), 0);
            x.undo();
            c.due("queued(7, 0, -1) before", x.queued(7, 0, -1), 0);
            c.due("bound(7, 3) before", x.bound(7, 3), 0);
            c.due("the last origin has not written before", x.cause(3, 1, 0), -1);
            x.undo();
            c.due("the home of the last origin before", x.setHome(3, 1), 0);
        }).brokenBy("void copyFrom(State other) {", "MAX_PROXIES * ORIGINS", "MAX_PROXIES + ORIGINS")
                .brokenBy("void copyFrom(State other) {", "proxy < MAX_PROXIES", "proxy < MAX_PROXIES - 1")
                .brokenBy("void copyFrom(State other) {", "homes, 0, ORIGINS", "homes, 0, ORIGINS - 1")
                .brokenBy("void copyFrom(State other) {", "written, 0, ORIGINS", "written, 0, ORIGINS - 1");
        s.says("but the text.", c -> {
            ProxyVersions x = Scenes.line(2);
            Scenes.type(x, "w0");
            x.write(1);
            Scenes.type(x, "w2");
            c.due("undo()", x.undo(), 1);
            c.due("the text goes on", x.appendCharacter(' '), 5);
            c.due("runScript()", x.runScript(), 2);
            c.due("undo()", x.undo(), 1);
            c.due("the text stays empty", x.clearText(), 0);
        }).brokenBy("public int undo(", "return history", "text.clear(); return history")
                .brokenBy("public int undo(", "return history", "text.append('w'); return history");
    }

    private static void sixStates(Sentences s) {
        s.says("At most 6 states are saved;", c -> {
            ProxyVersions x = new ProxyVersions();
            for (int call = 1; call <= 9; call++) {
                x.write(0);
                c.due("count(8) after " + call, x.count(8), Math.min(call, 6));
            }
            for (int left = 5; left >= 0; left--) {
                c.due("undo()", x.undo(), left);
            }
            c.due("a seventh undo()", x.undo(), -2);
            c.due("count(3)", x.count(3), 3);
        }).brokenBy("MAX_SAVED = 6;", "MAX_SAVED = 5;").brokenBy("MAX_SAVED = 6;", "MAX_SAVED = 7;");
        s.says("when a seventh is saved, the oldest one is discarded.", c -> {
            ProxyVersions x = new ProxyVersions();
            for (int memory = 1; memory <= 7; memory++) {
                x.setLimits(8, memory);
            }
            for (int memory = 6; memory >= 1; memory--) {
                x.undo();
                c.due("M after undo()", x.count(2), memory);
            }
            c.due("the state with M = 12 is gone", x.undo(), -2);
            ProxyVersions y = new ProxyVersions();
            for (int memory = 1; memory <= 6; memory++) {
                y.setLimits(8, memory);
            }
            y.undo();
            y.undo();
            for (int memory = 9; memory <= 11; memory++) {
                y.setLimits(8, memory);
            }
            int[] due = {10, 9, 4, 3, 2, 1};
            for (int memory : due) {
                y.undo();
                c.due("M after undo()", y.count(2), memory);
            }
            c.due("no more", y.undo(), -2);
        }).brokenBy("void commit(", "next = Math", "if (saved == MAX_SAVED) { return; } next = Math");
        s.says("undo() restores the most recently saved state and discards it.", c -> {
            ProxyVersions x = new ProxyVersions();
            x.setLimits(8, 1);
            x.setLimits(8, 2);
            x.setLimits(8, 3);
            int[] due = {2, 1, 12};
            for (int memory : due) {
                x.undo();
                c.due("M after undo()", x.count(2), memory);
            }
            c.due("count(8)", x.count(8), 0);
        }).brokenBy("boolean restore(", "next - 1", "next - saved").brokenBy("boolean restore(", "saved--;", "")
                .brokenBy("boolean restore(", "state.copyFrom(slots[next]);", "");
        s.says("(A call that returns NONE is not successful here.)", c -> {
            ProxyVersions x = Scenes.line(2);
            x.setHome(0, 1);
            x.setLimits(8, 1);
            Scenes.write(x, 0, 3);
            c.due("count(8)", x.count(8), 6);
            c.due("ask(1)", x.ask(1), -9);
            c.due("read(1, 0, 1)", x.read(1, 0, 1), -9);
            c.due("count(8) then", x.count(8), 6);
            for (int left = 5; left >= 0; left--) {
                c.due("undo()", x.undo(), left);
            }
            c.due("the state before all", x.count(0), 1);
            Twins few = new Twins(c, () -> Scenes.give(Scenes.line(2), 0, "1"));
            few.refuse("ask(1)", y -> y.ask(1), -9);
        }).brokenBy("private int commitIfDone(", "answer >= 0", "answer >= 0 || answer == NONE")
                .brokenBy("SLOTS = MAX_SAVED + 1;", "SLOTS = MAX_SAVED;")
                .brokenBy("private int commitIfDone(", "return answer;",
                        "if (answer == NONE) { undo(); } return answer;");
    }

    private static void errors(Sentences s) {
        s.says("A method that returns an error code changes nothing.", c -> {
            Twins busy = new Twins(c, () -> Scenes.type(busy(), "w0 w9"));
            busy.refuse("addProxy(3)", x -> x.addProxy(3), -1);
            busy.refuse("setHome(0, 1)", x -> x.setHome(0, 1), -2);
            busy.refuse("setHome(2, 3)", x -> x.setHome(2, 3), -1);
            busy.refuse("setLimits(7, 13)", x -> x.setLimits(7, 13), -1);
            busy.refuse("setLimits(9, 7)", x -> x.setLimits(9, 7), -1);
            busy.refuse("write(4)", x -> x.write(4), -1);
            busy.refuse("deliver(1, 1, 10)", x -> x.deliver(1, 1, 10), -1);
            busy.refuse("deliver(1, 1, 1)", x -> x.deliver(1, 1, 1), -2);
            busy.refuse("lose(2, 1, 0)", x -> x.lose(2, 1, 0), -1);
            busy.refuse("lose(1, 0, 1)", x -> x.lose(1, 0, 1), -2);
            busy.refuse("read(1, 0, 4)", x -> x.read(1, 0, 4), -1);
            busy.refuse("read(1, 0, 3)", x -> x.read(1, 0, 3), -2);
            busy.refuse("ask(3)", x -> x.ask(3), -1);
            busy.refuse("appendCharacter(256)", x -> x.appendCharacter(256), -1);
            busy.refuse("runScript()", ProxyVersions::runScript, -14);
            Twins full = new Twins(c, () -> Scenes.type(Scenes.write(new ProxyVersions(), 0, 24), "w0".repeat(50)));
            full.refuse("write(0)", x -> x.write(0), -3);
            full.refuse("appendCharacter(32)", x -> x.appendCharacter(32), -3);
            new Twins(c, () -> Scenes.star(7)).refuse("addProxy(7)", x -> x.addProxy(7), -3);
            new Twins(c, ProxyVersions::new).refuse("undo()", ProxyVersions::undo, -2);
            ProxyVersions six = Scenes.write(new ProxyVersions(), 0, 6);
            c.due("with six saved states: write(4)", six.write(4), -1);
            for (int left = 5; left >= 0; left--) {
                c.due("undo()", six.undo(), left);
            }
            c.due("count(3), in the oldest of them", six.count(3), 0);
        }).brokenBy("private int commitIfDone(", "answer >= 0", "answer != NONE")
                .brokenBy("SLOTS = MAX_SAVED + 1;", "SLOTS = MAX_SAVED;")
                .brokenBy("int deliverFirst(", "return ILLEGAL_STATE;", "state.losses++; return ILLEGAL_STATE;")
                .brokenBy("int changeLimits(", "return INVALID_ARGUMENT;",
                        "state.memory = 2; return INVALID_ARGUMENT;");
        s.says("the one that is named first in the description of the method is returned;", c -> {
            c.due("addProxy(8) with 8", Scenes.star(7).addProxy(8), -1);
            c.due("setHome(0, 2) after a write", Scenes.write(Scenes.star(1), 0, 1).setHome(0, 2), -1);
            c.due("deliver(1, 0, 10), empty", Scenes.star(1).deliver(1, 0, 10), -1);
            c.due("lose(1, 1, 0), empty", Scenes.star(1).lose(1, 1, 0), -1);
            c.due("read(2, 0, 1), no proxy and not served", Scenes.write(Scenes.star(1), 0, 1).read(2, 0, 1), -1);
            c.due("read(1, 0, 2), no update and not served", Scenes.write(Scenes.star(1), 0, 1).read(1, 0, 2), -1);
            ProxyVersions full = Scenes.type(new ProxyVersions(), " ".repeat(100));
            c.due("appendCharacter(-1) to a full text", full.appendCharacter(-1), -1);
        }).brokenBy("int insertProxy(", "if (!state.hasProxy(parent)) {",
                "if (state.proxies >= MAX_PROXIES) { return CAPACITY_EXCEEDED; } if (!state.hasProxy(parent)) {")
                .brokenBy("int changeHome(", "if (!isOrigin(origin)",
                        "if (state.writtenOf(origin) > 0) { return ILLEGAL_STATE; } if (!isOrigin(origin)")
                .brokenBy("int deliverFirst(", "if (!state.hasQueue(child, direction)",
                        "if (state.queueOf(child, direction).length() == 0) { return ILLEGAL_STATE; }"
                                + " if (!state.hasQueue(child, direction)")
                .brokenBy("int loseFirst(", "if (!state.hasQueue(child, direction)",
                        "if (state.queueOf(child, direction).length() == 0) { return ILLEGAL_STATE; }"
                                + " if (!state.hasQueue(child, direction)")
                .brokenBy("int fetchContent(", "if (!state.hasProxy(proxy)",
                        "if (version > causality.servedOf(proxy, origin)) { return ILLEGAL_STATE; }"
                                + " if (!state.hasProxy(proxy)")
                .brokenBy("public int appendCharacter(", "if (character < 0",
                        "if (text.length() == TEXT_ROOM) { return CAPACITY_EXCEEDED; } if (character < 0");
        s.says("NONE is no error, and it is returned only if no error code applies.", c -> {
            ProxyVersions x = Scenes.fork();
            x.setHome(0, 2);
            x.setLimits(8, 1);
            Scenes.write(x, 0, 3);
            Scenes.give(x, 1, "1");
            c.due("proxy(0, 8)", x.proxy(0, 8), -1);
            c.due("proxy(0, 0)", x.proxy(0, 0), -9);
            c.due("queued(4, 0, 99)", x.queued(4, 0, 99), -1);
            c.due("queued(1, 2, 99)", x.queued(1, 2, 99), -1);
            c.due("queued(1, 1, 99)", x.queued(1, 1, 99), -9);
            c.due("exception(4, 0, 99)", x.exception(4, 0, 99), -1);
            c.due("exception(0, 4, 99)", x.exception(0, 4, 99), -1);
            c.due("exception(0, 0, 99)", x.exception(0, 0, 99), -9);
            c.due("kept(4, 99)", x.kept(4, 99), -1);
            c.due("kept(0, 99)", x.kept(0, 99), -9);
            c.due("read(1, 0, 1), which 1 does not serve and nobody above keeps", x.read(1, 0, 1), -2);
            c.due("read(2, 0, 1), which nobody above keeps", x.read(2, 0, 1), -9);
            c.due("ask(0)", x.ask(0), -1);
            c.due("ask(4)", x.ask(4), -1);
            c.due("ask(2)", x.ask(2), -9);
            c.due("a NONE saves nothing", x.undo(), 5);
        }).brokenBy("public int queued(", "if (!state.hasQueue", "if (index > 12) { return NONE; } if (!state.hasQueue")
                .brokenBy("public int exception(", "if (!state", "if (index > 24) { return NONE; } if (!state")
                .brokenBy("public int kept(", "if (!state", "if (index > 96) { return NONE; } if (!state")
                .brokenBy("public int proxy(", "if (!state", "if (proxy == 0 && what == 8) { return NONE; } if (!state")
                .brokenBy("int fetchContent(", "if (version > causality",
                        "if (hopsToContent(proxy, updateOf(origin, version)) == NONE) { return NONE; }"
                                + " if (version > causality")
                .brokenBy("int askUpward(", "return INVALID_ARGUMENT;", "return NONE;");
    }

    private static void constants(Sentences s) {
        s.asksNothing("The constants:");
        s.asksNothing("The constructor and the methods follow");
        s.says("`INVALID_ARGUMENT = -1`: An argument is out of range, or names something that does not exist.", c -> {
            c.due("the constant", ProxyVersions.INVALID_ARGUMENT, -1);
            c.due("an origin out of range", new ProxyVersions().write(4), -1);
            c.due("a proxy that does not exist", new ProxyVersions().addProxy(1), -1);
            c.due("an update that does not exist", new ProxyVersions().cause(0, 1, 0), -1);
        }).brokenBy("INVALID_ARGUMENT = -1;", "INVALID_ARGUMENT = -4;");
        s.says("`ILLEGAL_STATE = -2`: The call is not possible in the present state.", c -> {
            c.due("the constant", ProxyVersions.ILLEGAL_STATE, -2);
            c.due("undo() without a saved state", new ProxyVersions().undo(), -2);
        }).brokenBy("ILLEGAL_STATE = -2;", "ILLEGAL_STATE = -5;");
        s.says("`CAPACITY_EXCEEDED = -3`: There is no room.", c -> {
            c.due("the constant", ProxyVersions.CAPACITY_EXCEEDED, -3);
            c.due("a ninth proxy", Scenes.star(7).addProxy(0), -3);
        }).brokenBy("CAPACITY_EXCEEDED = -3;", "CAPACITY_EXCEEDED = -6;");
        s.says("`NONE = -9`: There is no such value.", c -> {
            c.due("the constant", ProxyVersions.NONE, -9);
            c.due("the parent of the root", new ProxyVersions().proxy(0, 0), -9);
        }).brokenBy("NONE = -9;", "NONE = -10;");
    }

    private static void undo(Sentences s) {
        s.says("Restores the most recently saved state and discards it.", c -> {
            ProxyVersions x = busy();
            String before = Twins.lookAt(x);
            x.write(0);
            x.undo();
            c.due("what can be asked", Twins.lookAt(x), before);
            c.due("write(0), once more the same version", x.write(0), 4);
            x.undo();
            c.due("what can be asked then", Twins.lookAt(x), before);
            x.undo();
            c.due("the script is undone", x.count(3), 0);
            c.due("the origin has not written", x.setHome(0, 1), 0);
        }).brokenBy("boolean restore(", "state.copyFrom(slots[next]);", "").brokenBy("boolean restore(",
                "next = Math.floorMod(next - 1, SLOTS);", "int last = Math.floorMod(next - 1, SLOTS);");
        s.says("Returns the number of states that are still saved;", c -> {
            ProxyVersions x = Scenes.write(new ProxyVersions(), 0, 4);
            for (int left = 3; left >= 0; left--) {
                c.due("undo()", x.undo(), left);
                c.due("count(8)", x.count(8), left);
            }
        }).brokenBy("public int undo(", "? history.savedCount()", "? history.savedCount() + 1");
        s.says("ILLEGAL_STATE if there is none.", c -> {
            Twins twins = new Twins(c, () -> Scenes.type(new ProxyVersions(), "w0"));
            twins.refuse("undo()", ProxyVersions::undo, -2);
            ProxyVersions x = Scenes.write(new ProxyVersions(), 0, 1);
            c.due("undo()", x.undo(), 0);
            c.due("undo() again", x.undo(), -2);
            c.due("a call that is refused saves none", x.write(4) + 10 * x.undo(), -21);
            c.due("with a call there is one", x.write(0) + 10 * x.undo(), 1);
        }).brokenBy("public int undo(", ": ILLEGAL_STATE", ": INVALID_ARGUMENT")
                .brokenBy("public int undo(", ": ILLEGAL_STATE", ": 0")
                .brokenBy("boolean restore(", "saved == 0", "saved < 0");
    }
}

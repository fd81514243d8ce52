import java.util.function.Supplier;

/** Tests of the sentences of Promises 18 and 19: read, ask. */
final class FetchingSentences {
    private FetchingSentences() {
    }

    static void tell(Sentences s) {
        s.under("Promise 18: read");
        read(s);
        readErrors(s);
        s.under("Promise 19: ask");
        ask(s);
        askErrors(s);
    }

    /** A line of three with M = 1, which all know 201 to 203 and keep 203. */
    private static ProxyVersions informed() {
        ProxyVersions x = Scenes.line(3);
        x.setLimits(8, 1);
        Scenes.give(x, 2, "111");
        x.deliver(2, 1, 9);
        return x;
    }

    private static void read(Sentences s) {
        s.says("Reads an update at a proxy.", c -> {
            ProxyVersions x = informed();
            c.due("read(1, 2, 2)", x.read(1, 2, 2), 1);
            c.due("kept(1, 0)", x.kept(1, 0), 202);
            c.due("kept(2, 0)", x.kept(2, 0), 203);
            c.due("read(2, 2, 2)", x.read(2, 2, 2), 1);
            c.due("kept(2, 0)", x.kept(2, 0), 202);
            c.due("read(2, 2, 3)", x.read(2, 2, 3), 2);
        }).brokenBy("int fetchContent(", "int update = updateOf(origin, version);",
                        "int update = updateOf(origin, 1);");
        s.says("`proxy`: number of a proxy", c -> {
            for (int proxy = 0; proxy <= 7; proxy++) {
                ProxyVersions x = Scenes.write(Scenes.star(7), 0, 1);
                for (int child = 1; child <= 7; child++) {
                    x.deliver(child, 1, 1);
                }
                c.due("read(" + proxy + ", 0, 1)", x.read(proxy, 0, 1), 0);
            }
        }).brokenBy("int fetchContent(", "!state.hasProxy(proxy)", "!state.hasProxy(proxy + 1)")
                .brokenBy("int fetchContent(", "!state.hasProxy(proxy)", "!state.hasChild(proxy)");
        s.says("`origin`: 0 to 3", c -> {
            ProxyVersions x = new ProxyVersions();
            for (int origin = 0; origin <= 3; origin++) {
                x.write(origin);
                c.due("read(0, " + origin + ", 1)", x.read(0, origin, 1), 0);
            }
        }).brokenBy("int fetchContent(", "!state.wasWritten(origin, version)",
                        "!state.wasWritten(origin, version) || origin == 3")
                .brokenBy("int fetchContent(", "!state.wasWritten(origin, version)",
                        "!state.wasWritten(origin, version) || origin == 0");
        s.says("`version`: version of an update that was written", c -> {
            ProxyVersions x = Scenes.write(new ProxyVersions(), 1, 24);
            for (int version = 1; version <= 24; version++) {
                c.due("read(0, 1, " + version + ")", x.read(0, 1, version), 0);
            }
        }).brokenBy("boolean wasWritten(", "version <= writtenOf(origin)", "version < writtenOf(origin)")
                .brokenBy("boolean wasWritten(", "version >= 1", "version > 1");
        s.says("Returns the number of hops;", c -> {
            c.due("read(2, 2, 3)", informed().read(2, 2, 3), 0);
            c.due("read(1, 2, 1)", informed().read(1, 2, 1), 1);
            c.due("read(2, 2, 1)", informed().read(2, 2, 1), 2);
        }).brokenBy("int fetchContent(", "return hops;", "return hops > 0 ? 1 : 0;")
                .brokenBy("int fetchContent(", "return hops;", "return hops == 0 ? NONE : hops;");
    }

    private static void readErrors(Sentences s) {
        s.says("INVALID_ARGUMENT if an argument is out of range", c -> {
            Scenes.wrong(c, FetchingSentences::informed, "read(#, 2, 1)", (x, n) -> x.read(n, 2, 1), -1, 3, 8);
            Scenes.wrong(c, FetchingSentences::informed, "read(1, #, 1)", (x, n) -> x.read(1, n, 1), -1, 4);
        }).brokenBy("int fetchContent(", "!state.hasProxy(proxy) ||", "")
                .brokenBy("int fetchContent(", "!state.wasWritten(origin, version)", "version < 1 || version > 3")
                .brokenBy("int fetchContent(", "return INVALID_ARGUMENT;", "return ILLEGAL_STATE;");
        s.says("or there is no such update;", c -> {
            Scenes.wrong(c, FetchingSentences::informed, "read(1, 2, #)", (x, n) -> x.read(1, 2, n), -1, 0, 4, 24, 25);
            Scenes.wrong(c, FetchingSentences::informed, "read(1, 0, #)", (x, n) -> x.read(1, 0, n), 0, 1);
            c.due("of a new object", new ProxyVersions().read(0, 0, 1), -1);
        }).brokenBy("int fetchContent(", "|| !state.wasWritten(origin, version)", "")
                .brokenBy("boolean wasWritten(", "version >= 1", "version >= 0")
                .brokenBy("boolean wasWritten(", "version <= writtenOf(origin)", "version <= writtenOf(origin) + 1");
        s.says("ILLEGAL_STATE if the proxy does not serve it;", c -> {
            Twins twins = new Twins(c, () -> Scenes.give(Scenes.star(2), 0, "101"));
            twins.refuse("read(1, 0, 2), not known", x -> x.read(1, 0, 2), -2);
            twins.refuse("read(1, 0, 3), known and kept", x -> x.read(1, 0, 3), -2);
            twins.refuse("read(2, 0, 1), of which it knows none", x -> x.read(2, 0, 1), -2);
            ProxyVersions x = Scenes.write(Scenes.star(1), 3, 1);
            x.write(0);
            x.lose(1, 1, 1);
            x.deliver(1, 1, 1);
            c.due("read(1, 0, 1), which lacks a cause", x.read(1, 0, 1), -2);
        }).brokenBy("int fetchContent(", "version > causality.servedOf(proxy, origin)",
                        "!state.knows(proxy, origin, version)")
                .brokenBy("int fetchContent(",
                        "if (version > causality.servedOf(proxy, origin)) { return ILLEGAL_STATE; }", "")
                .brokenBy("int fetchContent(", "return ILLEGAL_STATE;", "return NONE;");
        s.says("NONE if no proxy above keeps its content, nor does the proxy (nothing changes then).", c -> {
            Supplier<ProxyVersions> scene = () -> {
                ProxyVersions x = Scenes.line(3);
                x.setLimits(8, 1);
                x.setHome(0, 2);
                Scenes.write(x, 0, 2);
                x.deliver(2, 0, 2);
                return x;
            };
            Twins twins = new Twins(c, scene);
            twins.refuse("read(2, 0, 1), which 1 has evicted, too", x -> x.read(2, 0, 1), -9);
            twins.refuse("read(1, 0, 1)", x -> x.read(1, 0, 1), -9);
            c.due("read(2, 0, 2), which it keeps", scene.get().read(2, 0, 2), 0);
            ProxyVersions x = scene.get();
            x.deliver(1, 0, 1);
            c.due("read(2, 0, 1), when the root keeps it", x.read(2, 0, 1), 2);
        }).brokenBy("private int hopsToContent(", "if (at == ROOT) { return NONE; }",
                        "if (at == ROOT) { return hops; }")
                .brokenBy("private int hopsToContent(", "if (at == ROOT) { return NONE; }",
                        "if (at == ROOT) { return ILLEGAL_STATE; }")
                .brokenBy("int fetchContent(", "if (hops > 0) {", "if (hops != 0) {");
    }

    /** A line of three; the root has written 1 to 4, of which 1 and 2 know 2 and 4. */
    private static ProxyVersions lacking() {
        ProxyVersions x = Scenes.give(Scenes.line(3), 0, "0101");
        x.deliver(2, 1, 9);
        return x;
    }

    private static void ask(Sentences s) {
        s.says("Makes a proxy ask upward.", c -> {
            ProxyVersions x = lacking();
            x.ask(1);
            c.due("served(1, 0)", x.served(1, 0), 4);
            c.due("served(2, 0)", x.served(2, 0), 0);
            c.due("queued(2, 1, 0)", x.queued(2, 1, 0), 1);
            c.due("queued(2, 1, 1)", x.queued(2, 1, 1), 3);
            x.ask(2);
            c.due("served(2, 0)", x.served(2, 0), 4);
            ProxyVersions y = lacking();
            y.ask(2);
            c.due("served(1, 0), as its child has asked", y.served(1, 0), 4);
            c.due("served(2, 0)", y.served(2, 0), 4);
        }).brokenBy("int askUpward(", "arrive(asking,", "arrive(proxy,")
                .brokenBy("int askUpward(", "asking <= proxy", "asking < proxy");
        s.says("`proxy`: number of a proxy, not of the root", c -> {
            for (int proxy = 1; proxy <= 7; proxy++) {
                ProxyVersions x = Scenes.star(7);
                Scenes.write(x, 0, 2);
                for (int child = 1; child <= 7; child++) {
                    x.lose(child, 1, 1);
                    x.deliver(child, 1, 1);
                }
                c.due("ask(" + proxy + ")", x.ask(proxy), 1);
                c.due("served(" + proxy + ", 0)", x.served(proxy, 0), 2);
            }
        }).brokenBy("int askUpward(", "!state.hasChild(proxy)", "!state.hasChild(proxy + 1)")
                .brokenBy("int askUpward(", "!state.hasChild(proxy)", "!state.hasChild(proxy - 1)");
        s.says("Returns how many updates this proxy has learned by it;", c -> {
            ProxyVersions x = lacking();
            c.due("ask(1)", x.ask(1), 2);
            c.due("ask(2), after 1 has asked", x.ask(2), 2);
            ProxyVersions y = Scenes.give(lacking(), 0, "01");
            // 1 lacks 1, 3 and 5; 2, which has 2 and 4 alone, lacks 1 and 3
            c.due("ask(2): not what its parent learns", y.ask(2), 2);
            c.due("what the parent has learned", y.served(1, 0), 6);
            ProxyVersions z = lacking();
            z.setLimits(1, 12);
            c.due("ask(1) with the limit 1: each closes a range", z.ask(1), 2);
        }).brokenBy("int askUpward(", "NONE : learned;", "NONE : learnedByAll;")
                .brokenBy("int askUpward(", "NONE : learned;", "NONE : learned - 1;");
    }

    private static void askErrors(Sentences s) {
        s.says("INVALID_ARGUMENT if there is no such proxy", c ->
            Scenes.wrong(c, FetchingSentences::lacking, "ask(#)", (x, n) -> x.ask(n), -1, 3, 8))
                .brokenBy("boolean hasChild(", "child < proxies", "child <= proxies")
                .brokenBy("int askUpward(", "!state.hasChild(proxy)", "proxy == ROOT || proxy >= state.proxies");
        s.says("or it is the root;", c -> {
            new Twins(c, FetchingSentences::lacking).refuse("ask(0)", x -> x.ask(0), -1);
            new Twins(c, ProxyVersions::new).refuse("ask(0) alone", x -> x.ask(0), -1);
        }).brokenBy("int askUpward(", "!state.hasChild(proxy)", "!state.hasProxy(proxy)");
        s.says("NONE if neither this proxy nor one above learned", c -> {
            new Twins(c, () -> Scenes.give(Scenes.line(3), 0, "11")).refuse("ask(2)", x -> x.ask(2), -9);
            new Twins(c, () -> Scenes.star(1)).refuse("ask(1)", x -> x.ask(1), -9);
            ProxyVersions x = lacking();
            x.addProxy(2);
            c.due("ask(3), by which 1 and 2 learn", x.ask(3), 0);
            c.due("served(2, 0)", x.served(2, 0), 4);
        }).brokenBy("int askUpward(", "learnedByAll == 0 &&", "learned == 0 &&")
                .brokenBy("int askUpward(", "? NONE : learned;", "? 0 : learned;");
        s.says("or refused one", c -> {
            Supplier<ProxyVersions> scene = () -> {
                ProxyVersions x = Scenes.give(Scenes.line(2), 0, "001");
                x.addProxy(1);
                x.setLimits(0, 12);
                return x;
            };
            ProxyVersions x = scene.get();
            c.due("ask(1), which refuses 1 and 2", x.ask(1), 0);
            c.due("count(4)", x.count(4), 2);
            ProxyVersions y = scene.get();
            int saved = y.count(8);
            c.due("ask(2), above which 1 refuses", y.ask(2), 0);
            c.due("count(4)", y.count(4), 2);
            c.due("undo()", y.undo() + 10 * y.count(4), Math.min(saved, 5));
        }).brokenBy("int askUpward(", "&& state.refusals == refusalsBefore", "")
                .brokenBy("int askUpward(", "NONE : learned;", "NONE : learned + state.refusals;");
        s.says("(nothing changes then).", c -> {
            Twins twins = new Twins(c, () -> {
                ProxyVersions x = Scenes.line(3);
                x.setHome(0, 2);
                Scenes.write(x, 0, 2);
                x.lose(2, 0, 1);
                x.deliver(2, 0, 1);
                return x;
            });
            twins.refuse("ask(1), whose parent lacks it as well", x -> x.ask(1), -9);
            twins.refuse("ask(2)", x -> x.ask(2), -9);
        }).brokenBy("public int ask(", "history.stage(state); return commitIfDone(network.askUpward(proxy));",
                "history.stage(state); history.commit(); return network.askUpward(proxy);")
                .brokenBy("private void findGapsToFill(", "&& state.knows(parent, origin, version)", "");
    }
}

/** Tests of the sentences of Promises 1 to 6: a new object, addProxy, setHome, setLimits, proxy, count. */
final class SettingsSentences {
    private SettingsSentences() {
    }

    static void tell(Sentences s) {
        newObject(s);
        addProxy(s);
        setHome(s);
        homeErrors(s);
        setLimits(s);
        limitErrors(s);
        proxy(s);
        moreOfProxy(s);
        proxyErrors(s);
        count(s);
        moreOfCount(s);
    }

    private static void newObject(Sentences s) {
        s.under("Promise 1: A new object");
        s.says("Creates a hierarchy with the root alone", c -> {
            ProxyVersions x = new ProxyVersions();
            c.due("count(0)", x.count(0), 1);
            int[] due = {-9, 0, 0, 0, 0, 0, 0, 0};
            for (int what = 0; what < due.length; what++) {
                c.due("proxy(0, " + what + ")", x.proxy(0, what), due[what]);
            }
            x.addProxy(0);
            c.due("another object has its own", new ProxyVersions().proxy(1, 0), -1);
        }).brokenBy("private int proxies = 1;", "private int proxies = 3;");
        s.says("no updates", c -> {
            Scenes.write(new ProxyVersions(), 0, 2);
            ProxyVersions x = new ProxyVersions();
            int[] due = {1, 8, 12, 0, 0, 0, 0, 0, 0};
            for (int what = 0; what < due.length; what++) {
                c.due("count(" + what + ")", x.count(what), due[what]);
            }
            for (int origin = 0; origin < 4; origin++) {
                c.due("cause(" + origin + ", 1, 0)", x.cause(origin, 1, 0), -1);
                c.due("write(" + origin + ")", x.write(origin), 1);
            }
        }).brokenBy("written = new int[ORIGINS];", "written = {0, 0, 0, 1};");
        s.says("and an empty text.", c -> {
            Scenes.type(new ProxyVersions(), "w0");
            c.due("clearText()", new ProxyVersions().clearText(), 0);
            c.due("runScript()", new ProxyVersions().runScript(), 0);
            c.due("appendCharacter(32)", new ProxyVersions().appendCharacter(32), 1);
        }).brokenBy("text = new Line(TEXT_ROOM);", "text = new Line(TEXT_ROOM); text.append(' ');");
    }

    private static void addProxy(Sentences s) {
        s.under("Promise 2: addProxy");
        s.says("Adds a proxy.", c -> {
            ProxyVersions x = new ProxyVersions();
            x.addProxy(0);
            c.due("count(0)", x.count(0), 2);
            c.due("proxy(1, 0)", x.proxy(1, 0), 0);
            x.addProxy(0);
            c.due("count(0)", x.count(0), 3);
        }).brokenBy("int addChild(", "proxies++;", "");
        s.says("`parent`: number of a proxy", c -> {
            for (int parent = 0; parent <= 6; parent++) {
                ProxyVersions x = Scenes.star(6);
                c.due("addProxy(" + parent + ")", x.addProxy(parent), 7);
                c.due("its parent", x.proxy(7, 0), parent);
            }
        }).brokenBy("int addChild(", "parents[child] = parent;", "parents[child] = parent / 2;")
                .brokenBy("int insertProxy(", "!state.hasProxy(parent)", "!state.hasProxy(parent + 1)");
        s.says("Returns the number of the new proxy;", c -> {
            ProxyVersions x = new ProxyVersions();
            for (int number = 1; number <= 7; number++) {
                c.due("addProxy(" + (number - 1) + ")", x.addProxy(number - 1), number);
            }
        }).brokenBy("int insertProxy(", "return state.addChild(parent);", "return state.addChild(parent) - 1;");
        s.says("INVALID_ARGUMENT if there is no such proxy;", c -> {
            Scenes.wrong(c, ProxyVersions::new, "addProxy(#)", (x, n) -> x.addProxy(n), -1, 1, 7, 8);
            Scenes.wrong(c, () -> Scenes.star(2), "addProxy(#)", (x, n) -> x.addProxy(n), -1, 3, 8);
        }).brokenBy("int insertProxy(", "return INVALID_ARGUMENT;", "return ILLEGAL_STATE;")
                .brokenBy("int insertProxy(", "!state.hasProxy(parent)", "parent < 0 || parent >= MAX_PROXIES")
                .brokenBy("int insertProxy(", "!state.hasProxy(parent)", "parent >= state.proxies");
        s.says("CAPACITY_EXCEEDED if there are 8 proxies.", c -> {
            Twins twins = new Twins(c, () -> Scenes.line(8));
            for (int parent = 0; parent <= 7; parent++) {
                int last = parent;
                twins.refuse("addProxy(" + parent + ")", x -> x.addProxy(last), -3);
            }
            c.due("with 7", Scenes.line(7).addProxy(6), 7);
        }).brokenBy("int insertProxy(", "return CAPACITY_EXCEEDED;", "return ILLEGAL_STATE;")
                .brokenBy("int insertProxy(", "state.proxies >= MAX_PROXIES", "state.proxies > MAX_PROXIES");
    }

    private static void setHome(Sentences s) {
        s.under("Promise 3: setHome");
        s.says("Sets the home of an origin.", c -> {
            ProxyVersions x = Scenes.star(2);
            x.setHome(2, 1);
            x.setHome(2, 2);
            x.setHome(1, 1);
            x.write(2);
            x.write(1);
            c.due("bound(2, 2)", x.bound(2, 2), 1);
            c.due("bound(1, 2)", x.bound(1, 2), 0);
            c.due("bound(1, 1)", x.bound(1, 1), 1);
        }).brokenBy("int changeHome(", "state.setHomeOf(origin, proxy);", "");
        s.says("`origin`: 0 to 3", c -> {
            for (int origin = 0; origin <= 3; origin++) {
                ProxyVersions x = Scenes.star(1);
                c.due("setHome(" + origin + ", 1)", x.setHome(origin, 1), 0);
                x.write(origin);
                c.due("bound(1, " + origin + ")", x.bound(1, origin), 1);
            }
        }).brokenBy("int changeHome(", "!isOrigin(origin)", "!isOrigin(origin) || origin == 3")
                .brokenBy("int changeHome(", "!isOrigin(origin)", "origin < 1");
        s.says("`proxy`: number of a proxy", c -> {
            for (int proxy = 0; proxy <= 7; proxy++) {
                ProxyVersions x = Scenes.star(7);
                c.due("setHome(0, " + proxy + ")", x.setHome(0, proxy), 0);
                c.due("setHome(0, 0)", x.setHome(0, 0), proxy);
            }
        }).brokenBy("int changeHome(", "!state.hasProxy(proxy)", "!state.hasProxy(proxy + 1)")
                .brokenBy("int changeHome(", "!state.hasProxy(proxy)", "!state.hasChild(proxy)");
        s.says("Returns the previous home;", c -> {
            ProxyVersions x = Scenes.star(3);
            c.due("setHome(3, 2)", x.setHome(3, 2), 0);
            c.due("setHome(3, 2)", x.setHome(3, 2), 2);
            c.due("setHome(3, 3)", x.setHome(3, 3), 2);
            c.due("setHome(3, 0)", x.setHome(3, 0), 3);
            c.due("setHome(2, 1)", x.setHome(2, 1), 0);
        }).brokenBy("int changeHome(", "return previous;", "return proxy;");
    }

    private static void homeErrors(Sentences s) {
        s.says("INVALID_ARGUMENT if an argument is out of range;", c -> {
            Scenes.wrong(c, () -> Scenes.star(1), "setHome(#, 1)", (x, n) -> x.setHome(n, 1), -1, 4);
            Scenes.wrong(c, () -> Scenes.star(1), "setHome(1, #)", (x, n) -> x.setHome(1, n), -1, 2, 7, 8);
        }).brokenBy("int changeHome(", "!isOrigin(origin)", "origin > 3")
                .brokenBy("int changeHome(", "!isOrigin(origin)", "origin < 0")
                .brokenBy("int changeHome(", "!state.hasProxy(proxy)", "proxy < 0")
                .brokenBy("int changeHome(", "!state.hasProxy(proxy)", "proxy >= state.proxies");
        s.says("ILLEGAL_STATE if the origin has written an update already.", c -> {
            Twins twins = new Twins(c, () -> {
                ProxyVersions x = Scenes.star(1);
                x.setHome(0, 1);
                return Scenes.write(x, 0, 1);
            });
            twins.refuse("setHome(0, 0)", x -> x.setHome(0, 0), -2);
            twins.refuse("setHome(0, 1), the same", x -> x.setHome(0, 1), -2);
            c.due("another origin", Scenes.write(Scenes.star(1), 0, 1).setHome(1, 1), 0);
            ProxyVersions x = Scenes.write(Scenes.star(1), 0, 1);
            x.undo();
            c.due("after the write is undone", x.setHome(0, 1), 0);
        }).brokenBy("int changeHome(", "state.writtenOf(origin) > 0", "state.writtenOf(origin) > 1")
                .brokenBy("int changeHome(", "state.writtenOf(origin) > 0", "state.writtenCount() > 0")
                .brokenBy("int changeHome(", "return ILLEGAL_STATE;", "return CAPACITY_EXCEEDED;");
    }

    private static void setLimits(Sentences s) {
        s.under("Promise 4: setLimits");
        s.says("Sets the limit of ranges of exceptions, and M.", c -> {
            ProxyVersions x = Scenes.star(1);
            x.setLimits(2, 3);
            c.due("count(1)", x.count(1), 2);
            c.due("count(2)", x.count(2), 3);
            Scenes.give(x, 0, "010101");
            c.due("ranges", x.exception(1, 0, -1), 2);
            Scenes.give(x, 1, "11");
            c.due("contents", x.proxy(1, 5), 3);
        }).brokenBy("int changeLimits(", "state.rangeLimit = ranges;", "")
                .brokenBy("int changeLimits(", "state.memory = memory;", "");
        s.says("What the proxies know and keep stays as it is.", c -> {
            ProxyVersions x = Scenes.give(Scenes.star(1), 0, "0101");
            Scenes.give(x, 1, "1");
            x.setLimits(0, 1);
            c.due("ranges", x.exception(1, 0, -1), 2);
            c.due("updates", x.proxy(1, 3), 3);
            c.due("contents", x.proxy(1, 5), 3);
            c.due("the oldest one", x.kept(1, 0), 2);
            c.due("evictions", x.count(7), 0);
            c.due("refused", x.count(4), 0);
        }).brokenBy("int changeLimits(", "state.memory = memory;",
                "state.memory = memory; while (state.contentsOf(1).length() > memory)"
                        + " { state.contentsOf(1).removeAt(0); }");
        s.says("`ranges`: 0 to 8", c ->
            Scenes.right(c, ProxyVersions::new, "setLimits(#, 5)", (x, n) -> x.setLimits(n, 5), 0, 8))
                .brokenBy("int changeLimits(", "ranges < 0", "ranges < 1")
                .brokenBy("MAX_RANGES = 8;", "MAX_RANGES = 7;");
        s.says("`memory`: 1 to 12", c ->
            Scenes.right(c, ProxyVersions::new, "setLimits(5, #)", (x, n) -> x.setLimits(5, n), 1, 12))
                .brokenBy("int changeLimits(", "memory < 1", "memory < 2")
                .brokenBy("MAX_MEMORY = 12;", "MAX_MEMORY = 11;");
    }

    private static void limitErrors(Sentences s) {
        s.says("Returns 1 if something changed, otherwise 0;", c -> {
            ProxyVersions x = new ProxyVersions();
            int[][] calls = {
                {8, 12, 0}, {8, 11, 1}, {8, 11, 0}, {7, 11, 1}, {7, 11, 0}, {0, 1, 1}, {0, 1, 0}, {8, 12, 1}
            };
            for (int[] call : calls) {
                c.due("setLimits(" + call[0] + ", " + call[1] + ")", x.setLimits(call[0], call[1]), call[2]);
            }
        }).brokenBy("int changeLimits(", "ranges != state.rangeLimit ||", "")
                .brokenBy("int changeLimits(", "|| memory != state.memory", "")
                .brokenBy("int changeLimits(", "ranges != state.rangeLimit ||", "ranges != state.rangeLimit &&")
                .brokenBy("int changeLimits(", "changes ? 1 : 0", "1");
        s.says("INVALID_ARGUMENT if an argument is out of range.", c -> {
            Scenes.wrong(c, () -> Scenes.star(1), "setLimits(#, 5)", (x, n) -> x.setLimits(n, 5), -1, 9);
            Scenes.wrong(c, () -> Scenes.star(1), "setLimits(5, #)", (x, n) -> x.setLimits(5, n), -1, 0, 13);
        }).brokenBy("int changeLimits(", "ranges < 0", "ranges < -1")
                .brokenBy("int changeLimits(", "ranges > MAX_RANGES", "ranges > MAX_RANGES + 1")
                .brokenBy("int changeLimits(", "memory < 1", "memory < 0")
                .brokenBy("int changeLimits(", "memory > MAX_MEMORY", "memory > MAX_MEMORY + 1");
    }

    /** 1 and 4 are children of the root, 2 and 3 of 1; M is 2; of 1 to 7 of origin 0 proxy 1 gets 1, 2, 4 and 7. */
    private static ProxyVersions tree() {
        ProxyVersions x = Scenes.fork();
        x.addProxy(0);
        x.setLimits(8, 2);
        Scenes.give(x, 0, "1101001");
        Scenes.give(x, 3, "1");
        return x;
    }

    private static void proxyIs(Checks c, int what, int... due) {
        ProxyVersions x = tree();
        for (int proxy = 0; proxy < due.length; proxy++) {
            c.due("proxy(" + proxy + ", " + what + ")", x.proxy(proxy, what), due[proxy]);
        }
    }

    private static void proxy(Sentences s) {
        s.under("Promise 5: proxy");
        s.says("Returns a property of a proxy.", c -> {
            int[] due = {0, 1, 2, 5, 2, 2, 4, 3};
            ProxyVersions x = tree();
            for (int what = 0; what < due.length; what++) {
                c.due("proxy(1, " + what + ")", x.proxy(1, what), due[what]);
            }
        }).brokenBy("public int proxy(", "switch (what) {", "switch (7 - what) {");
        s.says("`proxy`: number of a proxy", c ->
            Scenes.right(c, () -> Scenes.star(7), "proxy(#, 1)", (x, n) -> x.proxy(n, 1), 0, 7))
                .brokenBy("boolean hasProxy(", "proxy >= 0", "proxy >= 1")
                .brokenBy("boolean hasProxy(", "proxy < proxies", "proxy < proxies - 1");
        s.says("0 its parent", c -> proxyIs(c, 0, -9, 0, 1, 1, 0))
                .brokenBy("int parentOf(", "? parents[proxy]", "? parents[1]");
        s.says("(NONE for the root)", c -> {
            c.due("proxy(0, 0)", new ProxyVersions().proxy(0, 0), -9);
            c.due("proxy(0, 0) with children", tree().proxy(0, 0), -9);
        }).brokenBy("public int proxy(", "proxy == ROOT ? NONE", "proxy == ROOT ? NOBODY");
        s.says("1 the number of steps up to the root", c -> {
            proxyIs(c, 1, 0, 1, 2, 2, 1);
            c.due("of the last in a line of 8", Scenes.line(8).proxy(7, 1), 7);
        }).brokenBy("int stepsToRoot(", "int steps = 0;", "int steps = 1;")
                .brokenBy("int stepsToRoot(", "steps < MAX_PROXIES", "steps < MAX_PROXIES - 2");
        s.says("2 the number of its children", c -> {
            proxyIs(c, 2, 2, 2, 0, 0, 0);
            c.due("the most", Scenes.star(7).proxy(0, 2), 7);
        }).brokenBy("int childrenOf(", "isChildOf(child, parent)", "child > parent")
                .brokenBy("int childrenOf(", "child < proxies", "child < proxies - 1");
        s.says("3 how many updates it knows", c -> {
            proxyIs(c, 3, 8, 5, 0, 0, 0);
            ProxyVersions x = new ProxyVersions();
            for (int origin = 0; origin < 4; origin++) {
                Scenes.write(x, origin, 24);
            }
            c.due("the most", x.proxy(0, 3), 96);
        }).brokenBy("public int proxy(", "state.knownCount(proxy)", "causality.servedCount(proxy)")
                .brokenBy("int knownCount(", "Versions.sizeOf(", "Versions.greatest(");
    }

    private static void moreOfProxy(Sentences s) {
        s.says("4 how many it serves", c -> proxyIs(c, 4, 8, 2, 0, 0, 0))
                .brokenBy("public int proxy(", "causality.servedCount(proxy)", "state.knownCount(proxy)");
        s.says("5 how many contents it keeps", c -> proxyIs(c, 5, 8, 2, 0, 0, 0))
                .brokenBy("public int proxy(", "state.contentsOf(proxy).length()", "state.knownCount(proxy)");
        s.says("6 the size of its vector", c -> proxyIs(c, 6, 2, 4, 0, 0, 0))
                .brokenBy("public int proxy(", "state.vectorSize(proxy)", "state.vectorSize(proxy) + proxy / 2");
        s.says("7 the number of its exceptions", c -> proxyIs(c, 7, 0, 3, 0, 0, 0))
                .brokenBy("int exceptionCount(", "Versions.exceptionsIn(", "Versions.rangesIn(");
        s.says("Returns the property;", c -> {
            ProxyVersions x = tree();
            for (int proxy = 1; proxy <= 4; proxy++) {
                for (int what = 0; what <= 7; what++) {
                    c.due("proxy(" + proxy + ", " + what + ") is negative", x.proxy(proxy, what) < 0 ? 1 : 0, 0);
                }
            }
        }).brokenBy("public int proxy(", "case 7:", "case 8:");
    }

    private static void proxyErrors(Sentences s) {
        s.says("INVALID_ARGUMENT if there is no such proxy or what is out of range.", c -> {
            for (int what = 0; what <= 7; what++) {
                int of = what;
                Scenes.wrong(c, () -> Scenes.star(1), "proxy(#, " + what + ")", (x, n) -> x.proxy(n, of), -1, 2, 8);
            }
            Scenes.wrong(c, () -> Scenes.star(1), "proxy(0, #)", (x, n) -> x.proxy(0, n), -1, 8);
            Scenes.wrong(c, () -> Scenes.star(1), "proxy(1, #)", (x, n) -> x.proxy(1, n), -1, 8);
        }).brokenBy("public int proxy(", "if (!state.hasProxy(proxy)) { return INVALID_ARGUMENT; }", "")
                .brokenBy("public int proxy(", "default: return INVALID_ARGUMENT;", "default: return NONE;")
                .brokenBy("public int proxy(", "default: return INVALID_ARGUMENT;",
                        "default: return what == 8 ? 0 : INVALID_ARGUMENT;");
    }

    /** The limits are 1 and 2; 14 written, 1 refused, 2 overflows, 4 lost and 3 evictions. */
    private static ProxyVersions counted() {
        ProxyVersions x = Scenes.star(1);
        x.setLimits(1, 2);
        Scenes.write(x, 0, 14);
        x.deliver(1, 1, 4);
        x.lose(1, 1, 3);
        x.deliver(1, 1, 1);
        x.lose(1, 1, 1);
        x.deliver(1, 1, 1);
        return x;
    }

    private static void countIs(Checks c, int what, int due) {
        c.due("count(" + what + ")", counted().count(what), due);
    }

    private static void count(Sentences s) {
        s.under("Promise 6: count");
        s.says("Returns a number.", c -> {
            int[] due = {2, 1, 2, 14, 1, 2, 4, 3, 6};
            ProxyVersions x = counted();
            for (int what = 0; what < due.length; what++) {
                c.due("count(" + what + ")", x.count(what), due[what]);
            }
        }).brokenBy("public int count(", "switch (what) {", "switch (8 - what) {");
        s.says("0 the number of proxies", c -> countIs(c, 0, 2))
                .brokenBy("public int count(", "return state.proxies;", "return state.proxies - 1;");
        s.says("1 the limit of ranges", c -> countIs(c, 1, 1))
                .brokenBy("public int count(", "return state.rangeLimit;", "return state.memory;");
        s.says("2 M", c -> countIs(c, 2, 2))
                .brokenBy("public int count(", "return state.memory;", "return MAX_MEMORY;");
        s.says("3 the number of updates that were written", c -> {
            countIs(c, 3, 14);
            ProxyVersions x = new ProxyVersions();
            for (int origin = 0; origin < 4; origin++) {
                Scenes.write(x, origin, 24);
            }
            c.due("the most", x.count(3), 96);
        }).brokenBy("int writtenCount(", "count += writtenOf(origin);", "count = Math.max(count, writtenOf(origin));")
                .brokenBy("int writtenCount(", "origin < ORIGINS", "origin < ORIGINS - 1");
    }

    private static void moreOfCount(Sentences s) {
        s.says("4 of refused updates", c -> countIs(c, 4, 1))
                .brokenBy("public int count(", "return state.refusals;", "return state.overflows;");
        s.says("5 of overflows", c -> countIs(c, 5, 2))
                .brokenBy("public int count(", "return state.overflows;", "return state.refusals;");
        s.says("6 of lost updates", c -> countIs(c, 6, 4)).brokenBy("state.losses += removed;", "state.losses++;");
        s.says("7 of evictions", c -> countIs(c, 7, 3)).brokenBy("state.evictions++;", "state.evictions = 1;");
        s.says("8 the number of states that are saved for undo()", c -> {
            countIs(c, 8, 6);
            ProxyVersions x = new ProxyVersions();
            c.due("at first", x.count(8), 0);
            x.addProxy(0);
            c.due("after a call", x.count(8), 1);
            x.undo();
            c.due("after undo()", x.count(8), 0);
        }).brokenBy("public int count(", "history.savedCount()", "MAX_SAVED");
        s.says("Returns the number;", c -> {
            ProxyVersions x = counted();
            for (int what = 0; what <= 8; what++) {
                c.due("count(" + what + ") is positive", x.count(what) > 0 ? 1 : 0, 1);
            }
        }).brokenBy("public int count(", "case 8:", "case 9:");
        s.says("INVALID_ARGUMENT if what is out of range.", c ->
            Scenes.wrong(c, SettingsSentences::counted, "count(#)", (x, n) -> x.count(n), -1, 9))
                .brokenBy("public int count(", "default: return INVALID_ARGUMENT;", "default: return 0;")
                .brokenBy("public int count(", "case 8:", "case 9: case 8:")
                .brokenBy("public int count(", "case 0:", "case -1: case 0:");
    }
}

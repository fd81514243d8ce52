/** Tests of the sentences under "What it is", "Proxies", "Updates" and "Knowledge". */
final class HierarchySentences {
    private HierarchySentences() {
    }

    static void tell(Sentences s) {
        use(s);
        howManyProxies(s);
        parents(s);
        queues(s);
        originsAndVersions(s);
        vectors(s);
        boundsAndExceptions(s);
        servedPrefixes(s);
    }

    private static void use(Sentences s) {
        s.under("What it is");
        s.asksNothing("A simulation of a hierarchy of proxies");
        s.asksNothing("what later calls answer is free.");
        s.says("An object is used for at most 512 calls after it has been made", c -> {
            ProxyVersions x = new ProxyVersions();
            for (int call = 1; call <= 511; call++) {
                c.due("setHome(1, 0), call " + call, x.setHome(1, 0), 0);
            }
            c.due("write(0), call 512", x.write(0), 1);
        }).brokenBy("private int commitIfDone(int answer) {",
                "private int used; private int commitIfDone(int answer) { used++; if (used > 511) { return NONE; }");
    }

    private static void howManyProxies(Sentences s) {
        s.under("Proxies");
        s.says("There are N proxies, 1 to 8", c -> {
            ProxyVersions x = new ProxyVersions();
            for (int number = 1; number <= 7; number++) {
                c.due("count(0)", x.count(0), number);
                c.due("addProxy(0)", x.addProxy(0), number);
            }
            c.due("count(0) of the most", x.count(0), 8);
            c.due("a ninth", x.addProxy(0), -3);
            c.due("count(0) then", x.count(0), 8);
        }).brokenBy("MAX_PROXIES = 8;", "MAX_PROXIES = 7;").brokenBy("MAX_PROXIES = 8;", "MAX_PROXIES = 9;");
        s.says("numbered from 0", c -> {
            ProxyVersions x = Scenes.star(2);
            int[] due = {-1, 0, 1, 1, -1};
            for (int number = -1; number <= 3; number++) {
                c.due("proxy(" + number + ", 1)", x.proxy(number, 1), due[number + 1]);
            }
        }).brokenBy("boolean hasProxy(", "proxy < proxies", "proxy <= proxies")
                .brokenBy("boolean hasProxy(", "proxy >= 0", "proxy >= -1")
                .brokenBy("boolean hasProxy(", "proxy >= 0", "proxy >= 1");
        s.says("(at first 1)", c -> {
            ProxyVersions x = new ProxyVersions();
            c.due("count(0)", x.count(0), 1);
            c.due("the root", x.proxy(0, 1), 0);
            c.due("no other", x.proxy(1, 1), -1);
        }).brokenBy("private int proxies = 1;", "private int proxies = 2;");
    }

    private static void parents(Sentences s) {
        s.says("Proxy 0 is the root;", c -> {
            ProxyVersions x = Scenes.star(1);
            c.due("it has no parent", x.proxy(0, 0), -9);
            c.due("no step leads up to it from itself", x.proxy(0, 1), 0);
            c.due("it has no queue", x.queued(0, 0, -1), -1);
            c.due("it can't ask upward", x.ask(0), -1);
        }).brokenBy("proxy == ROOT ? NONE : state.parentOf(proxy)", "state.parentOf(proxy)")
                .brokenBy("boolean hasChild(", "child > ROOT", "child >= ROOT");
        s.says("each other proxy has a parent with a smaller number.", c -> {
            ProxyVersions x = new ProxyVersions();
            int[] parents = {0, 1, 0, 3, 2, 5, 6};
            for (int parent : parents) {
                int next = x.count(0);
                c.due("it can't be its own parent", x.addProxy(next), -1);
                c.due("addProxy(" + parent + ")", x.addProxy(parent), next);
            }
            for (int number = 1; number <= 7; number++) {
                c.due("proxy(" + number + ", 0)", x.proxy(number, 0), parents[number - 1]);
            }
        }).brokenBy("int insertProxy(", "!state.hasProxy(parent)", "parent < 0 || parent > state.proxies")
                .brokenBy("int insertProxy(", "state.addChild(parent)", "state.addChild(state.proxies - 1)");
        s.says("The proxies on the way from a proxy to the root, without the proxy itself, are those above it.", c -> {
            ProxyVersions x = Scenes.fork();
            x.setHome(0, 3);
            x.setLimits(8, 1);
            x.write(0);
            x.deliver(3, 0, 1);
            x.deliver(2, 1, 1);
            x.write(0);
            x.deliver(3, 0, 1);
            // 2 keeps version 1; 1 and 3 keep version 2, and the root knows nothing
            c.due("2 is not above 3", x.read(3, 0, 1), -9);
            c.due("2 is not above 1", x.read(1, 0, 1), -9);
            c.due("1 is above 2", x.deliver(2, 1, 1) + x.read(2, 0, 2), 1);
            x.deliver(1, 0, 9);
            c.due("the root is above 3", x.read(3, 0, 1), 2);
        }).brokenBy("private int hopsToContent(", "at = state.parentOf(at);", "at = at - 1;")
                .brokenBy("private int hopsToContent(", "state.keeps(at, update)",
                        "at != ROOT && state.keeps(at, update)");
        s.says("A proxy that is added is a child of its parent;", c -> {
            ProxyVersions x = Scenes.line(2);
            c.due("addProxy(1)", x.addProxy(1), 2);
            c.due("its parent", x.proxy(2, 0), 1);
            c.due("children of 1", x.proxy(1, 2), 1);
            c.due("children of the root", x.proxy(0, 2), 1);
        }).brokenBy("int insertProxy(", "state.addChild(parent)", "state.addChild(ROOT)");
        s.says("it knows nothing at first.", c -> {
            ProxyVersions x = Scenes.write(new ProxyVersions(), 0, 3);
            x.addProxy(0);
            c.due("updates", x.proxy(1, 3), 0);
            c.due("bound(1, 0)", x.bound(1, 0), 0);
            c.due("contents", x.proxy(1, 5), 0);
            c.due("the size of its vector", x.proxy(1, 6), 0);
            c.due("nothing waits for it", x.queued(1, 1, -1), 0);
        }).brokenBy("int addChild(", "parents[child] = parent;",
                "parents[child] = parent; known[child * ORIGINS] = known[parent * ORIGINS];");
    }

    private static void queues(Sentences s) {
        s.says("Each child has an up queue, in which updates wait on their way to its parent", c -> {
            ProxyVersions x = Scenes.fork();
            x.setHome(0, 3);
            x.write(0);
            c.due("the up queue of 3", x.queued(3, 0, 0), 1);
            c.due("the up queue of 2", x.queued(2, 0, -1), 0);
            c.due("the parent of 3 learns it", x.deliver(3, 0, 1) + 10 * x.bound(1, 0), 11);
            c.due("the up queue of 1", x.queued(1, 0, 0), 1);
        }).brokenBy("enqueue(state.queueOf(proxy, UP), update)", "enqueue(state.queueOf(proxy, DOWN), update)");
        s.says("and a down queue, in which updates wait on their way from its parent.", c -> {
            ProxyVersions x = Scenes.fork();
            x.setHome(0, 1);
            x.write(0);
            c.due("the down queue of 2", x.queued(2, 1, 0), 1);
            c.due("the down queue of 3", x.queued(3, 1, 0), 1);
            c.due("the up queue of 3", x.queued(3, 0, -1), 0);
            c.due("3 learns it", x.deliver(3, 1, 1) + 10 * x.bound(3, 0), 11);
            c.due("2 does not yet", x.bound(2, 0), 0);
        }).brokenBy("enqueue(state.queueOf(child, DOWN), update)", "enqueue(state.queueOf(child, UP), update)");
        s.says("A queue has room for 12 updates.", c -> {
            ProxyVersions x = Scenes.fork();
            x.setHome(0, 1);
            Scenes.write(x, 0, 12);
            c.due("overflows of twelve", x.count(5), 0);
            for (int child = 1; child <= 3; child++) {
                c.due("in a queue of " + child, x.queued(child, child == 1 ? 0 : 1, -1), 12);
            }
            x.write(0);
            c.due("overflows of the thirteenth", x.count(5), 3);
            for (int child = 1; child <= 3; child++) {
                c.due("in a queue of " + child, x.queued(child, child == 1 ? 0 : 1, -1), 12);
            }
        }).brokenBy("QUEUE_ROOM = 12;", "QUEUE_ROOM = 11;").brokenBy("QUEUE_ROOM = 12;", "QUEUE_ROOM = 13;");
    }

    private static void originsAndVersions(Sentences s) {
        s.under("Updates");
        s.says("There are 4 origins, 0 to 3.", c -> {
            ProxyVersions x = new ProxyVersions();
            int[] due = {-1, 1, 1, 1, 1, -1};
            for (int origin = -1; origin <= 4; origin++) {
                c.due("write(" + origin + ")", x.write(origin), due[origin + 1]);
            }
        }).brokenBy("ORIGINS = 4;", "ORIGINS = 3;").brokenBy("ORIGINS = 4;", "ORIGINS = 5;");
        s.says("Each origin has a home, a proxy", c -> {
            ProxyVersions x = Scenes.star(4);
            for (int origin = 0; origin < 4; origin++) {
                c.due("setHome(" + origin + ", " + (4 - origin) + ")", x.setHome(origin, 4 - origin), 0);
            }
            for (int origin = 0; origin < 4; origin++) {
                x.write(origin);
                for (int proxy = 0; proxy <= 4; proxy++) {
                    int due = proxy == 4 - origin ? 1 : 0;
                    c.due("bound(" + proxy + ", " + origin + ")", x.bound(proxy, origin), due);
                }
            }
        }).brokenBy("homes[origin] = proxy;", "homes[0] = proxy;");
        s.says("(at first the root)", c -> {
            ProxyVersions x = Scenes.star(1);
            for (int origin = 0; origin < 4; origin++) {
                c.due("setHome(" + origin + ", 0)", x.setHome(origin, 0), 0);
                x.write(origin);
                c.due("bound(0, " + origin + ")", x.bound(0, origin), 1);
            }
        }).brokenBy("homes = new int[ORIGINS];", "homes = {0, 0, 0, 1};");
        s.says("numbered by their versions, 1, 2, 3, ...", c -> {
            ProxyVersions x = new ProxyVersions();
            for (int version = 1; version <= 3; version++) {
                for (int origin = 0; origin < 4; origin++) {
                    c.due("write(" + origin + ")", x.write(origin), version);
                }
            }
        }).brokenBy("state.writtenOf(origin) + 1", "state.writtenCount() + 1")
                .brokenBy("state.writtenOf(origin) + 1", "state.writtenOf(origin)");
        s.says("at most 24.", c -> {
            for (int origin = 0; origin < 4; origin++) {
                ProxyVersions x = Scenes.write(new ProxyVersions(), origin, 23);
                c.due("the 24th of " + origin, x.write(origin), 24);
                c.due("the 25th of " + origin, x.write(origin), -3);
                c.due("the first of another one", x.write((origin + 1) % 4), 1);
            }
        }).brokenBy("MAX_VERSIONS = 24;", "MAX_VERSIONS = 23;").brokenBy("MAX_VERSIONS = 24;", "MAX_VERSIONS = 25;");
    }

    private static void vectors(Sentences s) {
        s.says("Each update has a vector of causes: a number for each origin;", c -> {
            ProxyVersions x = new ProxyVersions();
            Scenes.write(x, 0, 3);
            Scenes.write(x, 1, 2);
            Scenes.write(x, 3, 4);
            x.write(2);
            int[] due = {3, 2, 0, 4};
            for (int of = 0; of < 4; of++) {
                c.due("cause(2, 1, " + of + ")", x.cause(2, 1, of), due[of]);
            }
        }).brokenBy("public int cause(", "state.causeOf(origin, version, of)", "state.causeOf(origin, version, 0)")
                .brokenBy("void setCause(", "* ORIGINS + of", "* ORIGINS");
        s.says("for each origin, the updates with the versions from 1 to this number.", c -> {
            ProxyVersions x = Scenes.star(1);
            Scenes.write(x, 0, 3);
            Scenes.write(x, 3, 2);
            x.write(1);
            c.due("1 lacks it, 1 to 3 of origin 0, 1 and 2 of origin 3", x.missing(1, 1, 1), 6);
            x.deliver(1, 1, 1);
            c.due("without version 1 of origin 0", x.missing(1, 1, 1), 5);
            x.lose(1, 1, 1);
            x.deliver(1, 1, 1);
            c.due("without version 3 of origin 0", x.missing(1, 1, 1), 4);
        }).brokenBy("int countMissing(", "int needed = 1;", "int needed = Math.max(needs[each], 1);")
                .brokenBy("int countMissing(", "int needed = 1;", "int needed = 2;")
                .brokenBy("int countMissing(", "needed <= needs[each]", "needed < needs[each]");
    }

    private static void boundsAndExceptions(Sentences s) {
        s.under("Knowledge");
        s.says("A proxy knows a set of updates.", c -> {
            ProxyVersions x = Scenes.line(3);
            x.write(1);
            x.write(1);
            x.lose(1, 1, 1);
            x.deliver(1, 1, 1);
            x.deliver(2, 1, 1);
            c.due("2 learns 101 from 1, which learns it too", x.ask(2), 1);
            c.due("101 comes once more", x.queued(2, 1, 0), 101);
            c.due("and is not learned twice", x.deliver(2, 1, 1), 0);
            c.due("proxy(2, 3)", x.proxy(2, 3), 2);
        }).brokenBy("private boolean arrive(", "if (state.knows(proxy, origin, version)) { return false; }", "");
        s.says("the greatest version that it knows is its bound", c -> {
            ProxyVersions x = Scenes.give(Scenes.star(1), 2, "0101100");
            c.due("bound(1, 2)", x.bound(1, 2), 5);
            c.due("bound(0, 2)", x.bound(0, 2), 7);
            c.due("bound of the last one", Scenes.write(new ProxyVersions(), 3, 24).bound(0, 3), 24);
        }).brokenBy("public int bound(", "Versions.greatest(", "Versions.sizeOf(")
                .brokenBy("static int greatest(", "int version = MAX_VERSIONS;", "int version = MAX_VERSIONS - 1;");
        s.says("(0 if it knows none)", c -> {
            ProxyVersions x = Scenes.give(Scenes.star(1), 2, "00");
            c.due("bound(1, 2)", x.bound(1, 2), 0);
            c.due("bound(1, 0)", x.bound(1, 0), 0);
        }).brokenBy("static int greatest(", "version > 0", "version > 1");
        s.says("the versions below the bound that it does not know are the exceptions.", c -> {
            ProxyVersions x = Scenes.give(Scenes.star(1), 0, "011001000");
            int[] due = {1, 4, 5, -9};
            for (int index = 0; index < due.length; index++) {
                c.due("exception(1, 0, " + index + ")", x.exception(1, 0, index), due[index]);
            }
            c.due("proxy(1, 7)", x.proxy(1, 7), 3);
            c.due("none at the root", x.proxy(0, 7), 0);
        }).brokenBy("static int exceptionsIn(", "greatest(set)", "MAX_VERSIONS")
                .brokenBy("static int exceptionAt(", "!contains(set, version)", "contains(set, version)");
        s.says("Exceptions with successive versions form one range.", c -> {
            ProxyVersions x = Scenes.give(Scenes.star(1), 0, "0110001010");
            c.due("1, 4 to 6 and 8", x.exception(1, 0, -1), 3);
            c.due("1 to 23", Scenes.give(Scenes.star(1), 0, "00000000000000000000000" + "1").exception(1, 0, -1), 1);
            c.due("none", Scenes.give(Scenes.star(1), 0, "1100").exception(1, 0, -1), 0);
        }).brokenBy("static int rangesIn(", "Integer.bitCount(~set & set >> 1)", "exceptionsIn(set)")
                .brokenBy("static int rangesIn(", "~set & set >> 1", "~set & set << 1");
        s.says("The size of the vector of a proxy is the number of origins of which it knows updates", c -> {
            ProxyVersions x = Scenes.star(1);
            c.due("of none", x.proxy(1, 6), 0);
            for (int origin = 0; origin < 4; origin++) {
                Scenes.give(x, origin, "11");
                c.due("of origins 0 to " + origin, x.proxy(1, 6), origin + 1);
            }
        }).brokenBy("int vectorSize(", "set != 0 ? 1 : 0", "1")
                .brokenBy("int vectorSize(", "set != 0 ? 1 : 0", "Versions.greatest(set)")
                .brokenBy("int vectorSize(", "set != 0 ? 1 : 0", "0");
        s.says("plus the number of ranges of exceptions of all origins.", c -> {
            ProxyVersions x = Scenes.give(Scenes.star(1), 0, "0010");
            Scenes.give(x, 3, "01101");
            c.due("2 origins, 1 and 2 ranges", x.proxy(1, 6), 5);
        }).brokenBy("int vectorSize(", "Versions.rangesIn(set)", "Versions.exceptionsIn(set)")
                .brokenBy("int vectorSize(", "size += Versions", "size = Versions");
    }

    private static void servedPrefixes(Sentences s) {
        s.says("The served prefixes of a proxy are the greatest numbers p(0) to p(3)", c -> {
            ProxyVersions x = Scenes.write(new ProxyVersions(), 3, 24);
            Scenes.write(x, 0, 2);
            int[] due = {2, 0, 0, 24};
            for (int origin = 0; origin < 4; origin++) {
                c.due("served(0, " + origin + ")", x.served(0, origin), due[origin]);
            }
        }).brokenBy("static int prefixOf(", "version < MAX_VERSIONS", "version < MAX_VERSIONS - 1")
                .brokenBy("void findServed(", "version < prefixes[origin] && state",
                        "version + 1 < prefixes[origin] && state");
        s.says("for each origin o, the proxy knows the versions 1 to p(o)", c -> {
            ProxyVersions x = Scenes.give(Scenes.star(1), 0, "1101");
            Scenes.give(x, 1, "01");
            c.due("served(1, 0), without 3", x.served(1, 0), 2);
            c.due("served(1, 1), without 1", x.served(1, 1), 0);
            c.due("served(1, 2), of which nothing is written", x.served(1, 2), 0);
        }).brokenBy("void findServed(", "Versions.prefixOf(", "Versions.greatest(");
        s.says("each number in the vector of causes of each of these updates is at most the p of that origin.", c -> {
            ProxyVersions x = Scenes.star(1);
            Scenes.write(x, 0, 1);
            Scenes.write(x, 1, 1);
            Scenes.write(x, 0, 1);
            // 1 gets 1 and 2 of origin 0, not 101, which is a cause of 2
            x.deliver(1, 1, 1);
            x.lose(1, 1, 1);
            x.deliver(1, 1, 1);
            c.due("served(1, 0)", x.served(1, 0), 1);
            x.write(1);
            x.deliver(1, 1, 1);
            x.ask(1);
            c.due("served(1, 0) with 101", x.served(1, 0), 2);
            c.due("served(1, 1)", x.served(1, 1), 2);
        }).brokenBy("boolean hasCausesIn(", "causes[index] > numbers[of]", "causes[index] > numbers[of] + 1")
                .brokenBy("boolean hasCausesIn(", "causes[index] > numbers[of]",
                        "causes[index] > 0 && causes[index] >= numbers[of]");
        s.says("(There is one greatest choice for all origins together.)", c -> {
            ProxyVersions x = Scenes.star(1);
            for (int origin = 3; origin >= 0; origin--) {
                x.write(origin);
            }
            // without 301 nothing of what came after it is served
            x.lose(1, 1, 1);
            x.deliver(1, 1, 9);
            for (int origin = 0; origin < 4; origin++) {
                c.due("served(1, " + origin + ")", x.served(1, origin), 0);
            }
            x.write(3);
            x.deliver(1, 1, 1);
            x.ask(1);
            for (int origin = 0; origin < 4; origin++) {
                c.due("served(1, " + origin + ") with 301", x.served(1, origin), origin == 3 ? 2 : 1);
            }
        }).brokenBy("boolean hasCausesIn(", "of < ORIGINS", "of < 3")
                .brokenBy("void findServed(", "boolean cut = true;", "boolean cut = false;");
        s.says("The proxy serves the updates with the versions 1 to p(o).", c -> {
            ProxyVersions x = Scenes.give(Scenes.star(1), 0, "1101");
            int[] due = {3, 3, 0, 1};
            for (int version = 1; version <= 4; version++) {
                c.due("status(1, 0, " + version + ")", x.status(1, 0, version), due[version - 1]);
            }
            c.due("proxy(1, 4)", x.proxy(1, 4), 2);
        }).brokenBy("public int status(", "version > causality", "version >= causality")
                .brokenBy("int servedCount(", "count += prefixes[origin];", "count = prefixes[origin];");
    }
}

/** Tests of the sentences under "Learning", "Writes" and "Fetching and asking". */
final class LearningSentences {
    private LearningSentences() {
    }

    static void tell(Sentences s) {
        s.under("Learning");
        arrival(s);
        limitOfRanges(s);
        refusal(s);
        passingOn(s);
        overflow(s);
        memory(s);
        eviction(s);
        s.under("Writes");
        writes(s);
        s.under("Fetching and asking");
        hops(s);
        fetched(s);
        askingAbove(s);
        askingForExceptions(s);
    }

    private static void arrival(Sentences s) {
        s.says("An update arrives at a proxy from a neighbour (its parent or a child)", c -> {
            ProxyVersions x = Scenes.star(1);
            x.setHome(0, 1);
            x.write(0);
            x.write(1);
            c.due("the root learns from its child", x.deliver(1, 0, 1), 1);
            c.due("the child learns from its parent", x.deliver(1, 1, 1), 1);
            c.due("the root knows both", x.proxy(0, 3), 2);
            c.due("the child knows both", x.proxy(1, 3), 2);
        }).brokenBy("direction == UP ? parent : child", "child").brokenBy("direction == UP ? parent : child", "parent");
        s.says("or by a write.", c -> {
            ProxyVersions x = Scenes.star(1);
            x.setHome(0, 1);
            x.write(0);
            c.due("the home knows it at once", x.status(1, 0, 1), 3);
            c.due("the root does not", x.status(0, 0, 1), 0);
        }).brokenBy("arrive(home, NOBODY, updateOf(origin, version));", "");
        s.says("If the proxy knows it already, nothing happens.", c -> {
            ProxyVersions x = knownAlready();
            c.due("101 waits for 2", x.queued(2, 1, 0), 101);
            c.due("2 knows it", x.status(2, 1, 1), 3);
            c.due("2 has a range, the limit is 0", x.exception(2, 0, -1) - x.count(1), 1);
            c.due("deliver(2, 1, 1)", x.deliver(2, 1, 1), 0);
            c.due("refused", x.count(4), 0);
            c.due("evicted", x.count(7), 0);
            int[] kept = {2, 102, 101, -9};
            for (int index = 0; index < kept.length; index++) {
                c.due("kept(2, " + index + ")", x.kept(2, index), kept[index]);
            }
            c.due("in the down queue of 3", x.queued(3, 1, -1), 2);
            c.due("in the up queue of 2", x.queued(2, 0, -1), 1);
        }).brokenBy("private boolean arrive(", "if (state.knows(proxy, origin, version)) {",
                "if (state.knows(proxy, origin, version)"
                        + " && state.rangesWith(proxy, origin, version) <= state.rangeLimit) {")
                .brokenBy("private boolean arrive(", "version)) { return false; }",
                        "version)) { keepContent(proxy, update); return false; }")
                .brokenBy("private boolean arrive(", "version)) { return false; }",
                        "version)) { passOn(proxy, sender, update); return false; }");
    }

    /** In a line of four 2 knows 2 without 1, and 101 and 102; 101 comes to it again; the limits are 0 and 2. */
    private static ProxyVersions knownAlready() {
        ProxyVersions x = Scenes.line(4);
        x.setHome(0, 3);
        Scenes.write(x, 0, 2);
        x.lose(3, 0, 1);
        x.deliver(3, 0, 1);
        Scenes.give(x, 1, "01");
        x.deliver(2, 1, 1);
        x.ask(2);
        x.setLimits(0, 2);
        return x;
    }

    private static void limitOfRanges(Sentences s) {
        s.says("If it is not the root", c -> {
            ProxyVersions x = Scenes.star(1);
            x.setHome(0, 1);
            x.setLimits(0, 12);
            Scenes.write(x, 0, 2);
            x.lose(1, 0, 1);
            c.due("the root refuses nothing", x.deliver(1, 0, 1), 1);
            c.due("its ranges", x.exception(0, 0, -1), 1);
            c.due("refused", x.count(4), 0);
        }).brokenBy("proxy != ROOT && sender != NOBODY", "sender != NOBODY");
        s.says("its vector would have more ranges of exceptions than the limit says", c -> {
            ProxyVersions x = Scenes.star(1);
            x.setLimits(2, 12);
            Scenes.give(x, 0, "0101");
            c.due("as many as the limit", x.exception(1, 0, -1), 2);
            c.due("refused", x.count(4), 0);
            Scenes.give(x, 0, "01");
            c.due("one more", x.exception(1, 0, -1), 2);
            c.due("refused", x.count(4), 1);
        }).brokenBy("> state.rangeLimit", ">= state.rangeLimit")
                .brokenBy("> state.rangeLimit", "> state.rangeLimit + 1");
        s.says("ranges of exceptions than the limit says", c -> {
            ProxyVersions x = Scenes.star(1);
            x.setLimits(2, 12);
            Scenes.give(x, 0, "01");
            Scenes.give(x, 3, "01");
            Scenes.give(x, 1, "01");
            c.due("those of all origins count", x.count(4), 1);
            c.due("bound(1, 3)", x.bound(1, 3), 2);
            c.due("bound(1, 1)", x.bound(1, 1), 0);
        }).brokenBy("int rangesWith(", "ranges += Versions", "ranges = Versions");
        s.says("(0 to 8", c -> {
            ProxyVersions x = Scenes.star(1);
            x.setLimits(0, 12);
            Scenes.give(x, 0, "101");
            c.due("with the limit 0: version 3 without 2", x.bound(1, 0), 1);
            c.due("refused", x.count(4), 1);
            ProxyVersions most = Scenes.star(1);
            most.setLimits(1, 12);
            c.due("setLimits(8, 12)", most.setLimits(8, 12), 1);
            Scenes.give(most, 0, "0101010101010101");
            c.due("eight ranges", most.exception(1, 0, -1), 8);
            c.due("a ninth", Scenes.give(most, 1, "01").count(4), 1);
        }).brokenBy("MAX_RANGES = 8;", "MAX_RANGES = 7;")
                .brokenBy("> state.rangeLimit", "> Math.max(state.rangeLimit, 1)");
        s.says("at first 8)", c -> {
            ProxyVersions x = Scenes.star(1);
            c.due("count(1)", x.count(1), 8);
            Scenes.give(x, 0, "01010101010101010");
            c.due("eight ranges", x.exception(1, 0, -1), 8);
            c.due("none is refused", x.count(4), 0);
            Scenes.give(x, 0, "1");
            c.due("a ninth range", x.exception(1, 0, -1), 8);
            c.due("is refused", x.count(4), 1);
        }).brokenBy("rangeLimit = MAX_RANGES;", "rangeLimit = MAX_RANGES - 1;");
    }

    private static void refusal(Sentences s) {
        s.says("with it", c -> {
            ProxyVersions x = Scenes.give(Scenes.star(1), 0, "01");
            x.setLimits(0, 12);
            c.due("an update that closes the only range", x.ask(1), 1);
            c.due("served(1, 0)", x.served(1, 0), 2);
            ProxyVersions two = Scenes.give(Scenes.star(1), 0, "0101");
            two.setLimits(0, 12);
            c.due("those that close one of two", two.ask(1), 0);
            c.due("each is refused", two.count(4), 2);
            c.due("ranges", two.exception(1, 0, -1), 2);
        }).brokenBy("int rangesWith(", "each == origin ? Versions.with(set, version) : set", "set")
                .brokenBy("> state.rangeLimit", "> Math.max(state.rangeLimit, state.rangesWith(proxy, origin, 0))");
        s.says("the update is refused", c -> {
            ProxyVersions x = Scenes.line(3);
            x.setLimits(0, 12);
            x.write(0);
            x.lose(1, 1, 1);
            x.write(0);
            c.due("deliver(1, 1, 1)", x.deliver(1, 1, 1), 0);
            c.due("it is not known", x.status(1, 0, 2), 0);
            c.due("it is not kept", x.proxy(1, 5), 0);
            c.due("it is not passed on", x.queued(2, 1, -1), 0);
            c.due("it has left its queue", x.queued(1, 1, -1), 0);
        }).brokenBy("private boolean arrive(", "state.refusals++; return false;", "state.refusals++;");
        s.says("which is counted.", c -> {
            ProxyVersions x = Scenes.star(1);
            x.setLimits(0, 12);
            Scenes.give(x, 0, "0111");
            c.due("refused three times", x.count(4), 3);
        }).brokenBy("state.refusals++;", "").brokenBy("state.refusals++;", "state.refusals = 1;");
    }

    private static void passingOn(Sentences s) {
        s.says("Otherwise the proxy learns it: it knows the update then", c -> {
            ProxyVersions x = Scenes.give(Scenes.star(1), 2, "1");
            c.due("proxy(1, 3)", x.proxy(1, 3), 1);
            c.due("bound(1, 2)", x.bound(1, 2), 1);
            c.due("bound(1, 0)", x.bound(1, 0), 0);
        }).brokenBy("state.addKnown(proxy, origin, version);", "")
                .brokenBy("state.addKnown(proxy, origin, version);", "state.addKnown(proxy, 0, version);");
        s.says("keeps its content", c -> {
            ProxyVersions x = Scenes.give(Scenes.star(1), 2, "1");
            c.due("proxy(1, 5)", x.proxy(1, 5), 1);
            c.due("kept(1, 0)", x.kept(1, 0), 201);
        }).brokenBy("private boolean arrive(", "keepContent(proxy, update);", "");
        s.says("puts it into the queues to all other neighbours", c -> {
            ProxyVersions x = Scenes.fork();
            x.addProxy(0);
            x.addProxy(1);
            x.setHome(0, 1);
            x.write(0);
            c.due("to the parent", x.queued(1, 0, 0), 1);
            for (int child : new int[] {2, 3, 5}) {
                c.due("to the child " + child, x.queued(child, 1, 0), 1);
            }
            c.due("not to a child of another one", x.queued(4, 1, -1), 0);
            c.due("not from below", x.queued(2, 0, -1) + x.queued(3, 0, -1) + x.queued(5, 0, -1), 0);
        }).brokenBy("private void passOn(", "child < state.proxies", "child < state.proxies - 1")
                .brokenBy("private void passOn(", "proxy != ROOT", "proxy < ROOT")
                .brokenBy("private void passOn(", "&& state.isChildOf(child, proxy)", "");
        s.says("first into its own up queue, then into the down queues of its children by ascending numbers", c -> {
            ProxyVersions x = Scenes.star(3);
            Scenes.write(x, 0, 12);
            x.lose(1, 1, 1);
            x.lose(3, 1, 1);
            x.write(0);
            // a full queue on the way does not keep the update from those behind it
            c.due("before the full one", x.queued(1, 1, 11), 13);
            c.due("the full one", x.queued(2, 1, 11), 12);
            c.due("behind the full one", x.queued(3, 1, 11), 13);
            ProxyVersions up = Scenes.line(3);
            up.setHome(0, 1);
            Scenes.write(up, 0, 12);
            up.lose(2, 1, 1);
            up.write(0);
            c.due("the up queue is full", up.queued(1, 0, 11), 12);
            c.due("that of the child is not", up.queued(2, 1, 11), 13);
        }).brokenBy("private void passOn(", "enqueue(state.queueOf(child, DOWN), update);",
                "int before = state.overflows; enqueue(state.queueOf(child, DOWN), update);"
                        + " if (state.overflows > before) { return; }")
                .brokenBy("private void passOn(", "enqueue(state.queueOf(proxy, UP), update);",
                        "if (state.queueOf(proxy, UP).length() == QUEUE_ROOM) { state.overflows++; return; }"
                                + " enqueue(state.queueOf(proxy, UP), update);");
        s.says("but not into that to the neighbour from which it came.", c -> {
            ProxyVersions x = Scenes.fork();
            x.setHome(0, 2);
            x.write(0);
            x.deliver(2, 0, 1);
            c.due("from the child 2: not down to it", x.queued(2, 1, -1), 0);
            c.due("but to 3", x.queued(3, 1, -1), 1);
            c.due("and up", x.queued(1, 0, -1), 1);
            x.deliver(3, 1, 1);
            c.due("from the parent: not up to it", x.queued(3, 0, -1), 0);
        }).brokenBy("private void passOn(", "child != sender &&", "")
                .brokenBy("private void passOn(", "&& state.parentOf(proxy) != sender", "");
    }

    private static void overflow(Sentences s) {
        s.says("If a queue is full, the update is not put into it", c -> {
            ProxyVersions x = Scenes.write(Scenes.star(1), 0, 13);
            c.due("queued(1, 1, -1)", x.queued(1, 1, -1), 12);
            c.due("the first one stays", x.queued(1, 1, 0), 1);
            c.due("the last one stays", x.queued(1, 1, 11), 12);
            c.due("the root has learned it all the same", x.bound(0, 0), 13);
            x.lose(1, 1, 1);
            x.write(0);
            c.due("with room again the next one is put in", x.queued(1, 1, 11), 14);
        }).brokenBy("private void enqueue(", "state.overflows++;",
                "state.overflows++; queue.removeAt(0); queue.append(update);")
                .brokenBy("boolean append(", "return false;", "cells[cells.length - 1] = number; return false;");
        s.says("which is counted as an overflow.", c -> {
            ProxyVersions x = Scenes.write(Scenes.star(2), 0, 12);
            c.due("with room", x.count(5), 0);
            x.lose(2, 1, 1);
            c.due("one queue is full", x.write(0) + 100 * x.count(5), 113);
            c.due("two queues are full", x.write(0) + 100 * x.count(5), 314);
        }).brokenBy("state.overflows++;", "").brokenBy("state.overflows++;", "state.overflows = 1;");
    }

    private static void memory(Sentences s) {
        s.says("A proxy has memory for M contents, 1 to 12", c -> {
            for (int memory : new int[] {1, 2, 12}) {
                ProxyVersions x = Scenes.star(1);
                x.setLimits(8, 8);
                x.setLimits(8, memory);
                Scenes.give(x, 0, "1111111111111".substring(0, memory));
                c.due("M contents", x.proxy(1, 5), memory);
                c.due("no eviction", x.count(7), 0);
                Scenes.give(x, 0, "1");
                c.due("one more", x.proxy(1, 5), memory);
                c.due("an eviction", x.count(7), 1);
            }
        }).brokenBy("contents.length() > state.memory", "contents.length() > state.memory + 1")
                .brokenBy("contents.length() > state.memory", "contents.length() > Math.min(state.memory, 11)")
                .brokenBy("contents.length() > state.memory", "contents.length() > Math.max(state.memory, 2)");
        s.says("(at first 12)", c -> {
            ProxyVersions x = Scenes.give(Scenes.star(1), 0, "111111111111");
            c.due("count(2)", x.count(2), 12);
            c.due("twelve contents", x.proxy(1, 5), 12);
            c.due("no eviction", x.count(7), 0);
            Scenes.give(x, 0, "1");
            c.due("of thirteen", x.proxy(1, 5), 12);
        }).brokenBy("memory = MAX_MEMORY;", "memory = MAX_MEMORY - 1;");
        s.says("the root keeps all contents.", c -> {
            ProxyVersions x = new ProxyVersions();
            x.setLimits(8, 1);
            for (int count = 0; count < 96; count++) {
                x.write(count % 4);
            }
            c.due("proxy(0, 5)", x.proxy(0, 5), 96);
            c.due("evictions", x.count(7), 0);
            c.due("the first one", x.kept(0, 0), 1);
            c.due("the last one", x.kept(0, 95), 324);
        }).brokenBy("proxy != ROOT && contents.length() > state.memory", "contents.length() > state.memory")
                .brokenBy("proxy == ROOT ? MAX_UPDATES : MAX_MEMORY + 1", "MAX_MEMORY + 1");
    }

    private static void eviction(Sentences s) {
        s.says("has kept one more content, and keeps more than M then, one of them is evicted", c -> {
            ProxyVersions x = Scenes.star(1);
            x.setLimits(8, 3);
            Scenes.give(x, 0, "111");
            c.due("three contents", x.proxy(1, 5), 3);
            c.due("are not more than M", x.count(7), 0);
            x.setLimits(8, 1);
            c.due("a smaller M evicts nothing", x.proxy(1, 5), 3);
            Scenes.give(x, 0, "1");
            c.due("one comes, one goes", x.proxy(1, 5), 3);
            c.due("one eviction", x.count(7), 1);
            x.setLimits(8, 5);
            Scenes.give(x, 0, "11");
            c.due("room again", x.proxy(1, 5), 5);
        }).brokenBy("contents.length() > state.memory", "contents.length() >= state.memory")
                .brokenBy("private void keepContent(", "if (proxy != ROOT", "while (proxy != ROOT");
        s.says("the one that it has kept for the longest time of those that it serves", c -> {
            ProxyVersions x = Scenes.give(Scenes.star(1), 0, "011");
            Scenes.give(x, 1, "111");
            x.setLimits(8, 5);
            // 1 keeps 2 3 101 102 103; 101 and what follows it have 1 to 3 as causes: nothing is served before 1 comes
            c.due("ask(1)", x.ask(1), 1);
            c.due("with 1 all are served: the oldest goes", x.kept(1, 0), 3);
            Scenes.give(x, 2, "01");
            int[] kept = {101, 102, 103, 1, 202};
            for (int index = 0; index < kept.length; index++) {
                c.due("kept(1, " + index + ")", x.kept(1, index), kept[index]);
            }
            ProxyVersions y = Scenes.star(1);
            y.setLimits(8, 3);
            y.setHome(3, 1);
            Scenes.write(Scenes.give(y, 0, "01"), 3, 3);
            // 2 is older than all of origin 3, but not served
            int[] left = {2, 302, 303, -9};
            for (int index = 0; index < left.length; index++) {
                c.due("kept(1, " + index + ") without 301", y.kept(1, index), left[index]);
            }
            c.due("ask(1)", y.ask(1), 1);
            c.due("with 1 it is served, and goes", y.kept(1, 0), 302);
        }).brokenBy("private int firstServed(", "versionOf(update) <= causality", "versionOf(update) < 0 * causality")
                .brokenBy("private int firstServed(", "int index = 0; index < contents.length(); index++",
                        "int index = contents.length() - 1; index >= 0; index--")
                .brokenBy("private boolean arrive(",
                        "state.addKnown(proxy, origin, version); keepContent(proxy, update);",
                        "keepContent(proxy, update); state.addKnown(proxy, origin, version);");
        s.says("or, if it serves none of them, the one that it has kept for the longest time.", c -> {
            ProxyVersions x = Scenes.star(1);
            x.setLimits(8, 2);
            Scenes.give(x, 0, "0111");
            c.due("kept(1, 0)", x.kept(1, 0), 3);
            c.due("kept(1, 1)", x.kept(1, 1), 4);
            c.due("evictions", x.count(7), 1);
        }).brokenBy("private int firstServed(", "return 0;", "return contents.length() - 1;");
        s.says("of those that it serves, or", c -> {
            ProxyVersions x = Scenes.star(1);
            x.setLimits(8, 2);
            x.setHome(3, 1);
            Scenes.give(x, 0, "011");
            c.due("write(3) at 1", x.write(3), 1);
            c.due("the newest is the only one that is served, and goes", x.status(1, 3, 1), 2);
            c.due("kept(1, 0)", x.kept(1, 0), 2);
            c.due("kept(1, 1)", x.kept(1, 1), 3);
        }).brokenBy("private int firstServed(", "index < contents.length()", "index < contents.length() - 1");
        s.says("(It still knows the update.)", c -> {
            ProxyVersions x = Scenes.star(1);
            x.setLimits(8, 1);
            Scenes.give(x, 0, "11");
            c.due("proxy(1, 5)", x.proxy(1, 5), 1);
            c.due("proxy(1, 3)", x.proxy(1, 3), 2);
            c.due("served(1, 0)", x.served(1, 0), 2);
            c.due("status(1, 0, 1)", x.status(1, 0, 1), 2);
        }).brokenBy("state.evictions++;", "state.evictions++; state.known[proxy * ORIGINS] &= ~1;");
    }

    private static void writes(Sentences s) {
        s.says("A write makes the next update of an origin at its home.", c -> {
            ProxyVersions x = Scenes.star(2);
            x.setHome(1, 2);
            c.due("write(1)", x.write(1), 1);
            c.due("write(1)", x.write(1), 2);
            c.due("write(0)", x.write(0), 1);
            c.due("at the home of 1", x.bound(2, 1), 2);
            c.due("not at the root", x.bound(0, 1), 0);
            c.due("at the home of 0", x.bound(0, 0), 1);
            c.due("not at 2", x.bound(2, 0), 0);
        }).brokenBy("int home = state.homeOf(origin);", "int home = ROOT;")
                .brokenBy("state.setWrittenOf(origin, version);", "");
        s.says("Its vector of causes has the served prefixes of the home", c -> {
            ProxyVersions x = Scenes.star(1);
            x.setHome(3, 1);
            Scenes.give(x, 0, "1101");
            Scenes.give(x, 1, "01");
            Scenes.give(x, 2, "1");
            x.write(3);
            int[] due = {2, 0, 0, 0};
            // 201 has causes that the home lacks: it is known, and not served
            for (int of = 0; of < 4; of++) {
                c.due("cause(3, 1, " + of + ")", x.cause(3, 1, of), due[of]);
            }
        }).brokenBy("causality.prefixFound(of)", "Versions.greatest(state.knownOf(home, of))")
                .brokenBy("causality.prefixFound(of)", "Versions.prefixOf(state.knownOf(home, of))")
                .brokenBy("causality.prefixFound(of)", "state.writtenOf(of)");
        s.says("before the write", c -> {
            ProxyVersions x = new ProxyVersions();
            x.write(0);
            x.write(1);
            x.write(0);
            c.due("cause(0, 1, 1)", x.cause(0, 1, 1), 0);
            c.due("cause(1, 1, 0)", x.cause(1, 1, 0), 1);
            c.due("cause(0, 2, 1)", x.cause(0, 2, 1), 1);
        }).brokenBy("causality.findServed(home);", "");
        s.says("but for its own origin the version before it.", c -> {
            ProxyVersions x = Scenes.star(1);
            x.setHome(0, 1);
            for (int version = 1; version <= 24; version++) {
                x.write(0);
                c.due("cause(0, " + version + ", 0)", x.cause(0, version, 0), version - 1);
            }
        }).brokenBy("of == origin ? version - 1 :", "of == origin ? version :")
                .brokenBy("of == origin ? version - 1 :", "of == origin ? 0 :");
        s.says("Then the update arrives at the home;", c -> {
            ProxyVersions x = Scenes.fork();
            x.setHome(0, 1);
            x.setLimits(8, 1);
            Scenes.write(x, 0, 2);
            c.due("it knows both", x.proxy(1, 3), 2);
            c.due("it keeps the second, as M is 1", x.kept(1, 0), 2);
            c.due("it serves both", x.served(1, 0), 2);
            for (int child = 1; child <= 3; child++) {
                c.due("in a queue of " + child, x.queued(child, child == 1 ? 0 : 1, 1), 2);
            }
        }).brokenBy("arrive(home, NOBODY, updateOf(origin, version));",
                "state.addKnown(home, origin, version); keepContent(home, updateOf(origin, version));")
                .brokenBy("arrive(home, NOBODY, updateOf(origin, version));",
                        "state.addKnown(home, origin, version); passOn(home, NOBODY, updateOf(origin, version));");
        s.says("this never refuses it.", c -> {
            ProxyVersions x = Scenes.star(1);
            x.setHome(1, 1);
            Scenes.give(x, 0, "0101");
            x.setLimits(0, 12);
            c.due("write(1) with two ranges over the limit", x.write(1), 1);
            c.due("it is known", x.status(1, 1, 1), 3);
            c.due("refused", x.count(4), 0);
            c.due("the size of the vector", x.proxy(1, 6), 4);
        }).brokenBy("proxy != ROOT && sender != NOBODY", "proxy != ROOT");
    }

    /** A line whose proxies all know versions 1 to 3 of origin 0, and keep the last ones of them. */
    private static ProxyVersions informed(int proxies, int memory) {
        ProxyVersions x = Scenes.line(proxies);
        x.setLimits(8, memory);
        Scenes.write(x, 0, 3);
        for (int child = 1; child < proxies; child++) {
            x.deliver(child, 1, 9);
        }
        return x;
    }

    private static void hops(Sentences s) {
        s.says("To read an update at a proxy that serves it", c -> {
            ProxyVersions x = Scenes.give(Scenes.star(1), 0, "1011");
            c.due("served", x.read(1, 0, 1), 0);
            c.due("not known", x.read(1, 0, 2), -2);
            c.due("known and kept, not served", x.read(1, 0, 3), -2);
        }).brokenBy("int fetchContent(", "version > causality.servedOf(proxy, origin)",
                "!state.knows(proxy, origin, version)")
                .brokenBy("int fetchContent(", "version > causality", "version >= causality");
        s.says("if the proxy keeps its content, this takes 0 hops;", c -> {
            ProxyVersions x = informed(3, 2);
            c.due("read(2, 0, 2)", x.read(2, 0, 2), 0);
            c.due("read(2, 0, 3)", x.read(2, 0, 3), 0);
            c.due("read(0, 0, 1)", x.read(0, 0, 1), 0);
            c.due("nothing is kept anew", x.kept(2, 0), 2);
        }).brokenBy("private int hopsToContent(", "state.keeps(at, update)", "state.keeps(at, update) && hops > 0");
        s.says("otherwise the content is fetched from the nearest proxy above that keeps it", c -> {
            ProxyVersions x = informed(4, 1);
            c.due("1 fetches version 1 from the root", x.read(1, 0, 1), 1);
            c.due("3 fetches it from 1, not from the root", x.read(3, 0, 1), 2);
            c.due("1 keeps it still", x.kept(1, 0), 1);
            c.due("2, which it passes, does not keep it", x.kept(2, 0), 3);
        }).brokenBy("private int hopsToContent(", "state.keeps(at, update)",
                "state.keeps(at, update) && (hops == 0 || at == ROOT)")
                .brokenBy("int fetchContent(", "keepContent(proxy, update);",
                        "keepContent(state.parentOf(proxy), update); keepContent(proxy, update);");
        s.says("the number of hops is the number of steps up to that proxy.", c -> {
            for (int proxy = 1; proxy <= 7; proxy++) {
                c.due("hops from " + proxy, informed(8, 1).read(proxy, 0, 1), proxy);
            }
        }).brokenBy("private int hopsToContent(", "hops < MAX_PROXIES", "hops < MAX_PROXIES - 1")
                .brokenBy("private int hopsToContent(", "return hops;", "return Math.min(hops, 1);");
    }

    private static void fetched(Sentences s) {
        s.says("A proxy that has fetched a content keeps it then", c -> {
            ProxyVersions x = informed(3, 1);
            c.due("read(2, 0, 1)", x.read(2, 0, 1), 2);
            c.due("status(2, 0, 1)", x.status(2, 0, 1), 3);
            c.due("read(2, 0, 1) again", x.read(2, 0, 1), 0);
        }).brokenBy("int fetchContent(", "if (hops > 0) {", "if (hops > MAX_PROXIES) {");
        s.says("(as if it was kept just now", c -> {
            ProxyVersions x = informed(2, 2);
            x.setLimits(8, 3);
            x.read(1, 0, 1);
            int[] kept = {2, 3, 1};
            for (int index = 0; index < kept.length; index++) {
                c.due("kept(1, " + index + ")", x.kept(1, index), kept[index]);
            }
            Scenes.give(x, 0, "11");
            c.due("the older ones go first", x.kept(1, 0), 1);
        }).brokenBy("int fetchContent(", "keepContent(proxy, update);",
                "Line line = state.contentsOf(proxy); int count = line.length(); keepContent(proxy, update);"
                        + " for (int i = 0; i < count; i++) { line.append(line.at(0)); line.removeAt(0); }");
        s.says("with an eviction if necessary)", c -> {
            ProxyVersions x = informed(2, 2);
            c.due("evictions before", x.count(7), 1);
            c.due("read(1, 0, 1)", x.read(1, 0, 1), 1);
            c.due("evictions", x.count(7), 2);
            c.due("kept(1, 0)", x.kept(1, 0), 3);
            c.due("kept(1, 1)", x.kept(1, 1), 1);
            c.due("proxy(1, 5)", x.proxy(1, 5), 2);
            x.setLimits(8, 3);
            c.due("read(1, 0, 2) with room", x.read(1, 0, 2), 1);
            c.due("no eviction", x.count(7), 2);
        }).brokenBy("int fetchContent(", "keepContent(proxy, update);", "state.contentsOf(proxy).append(update);");
        s.says("a content that it keeps already stays in its place.", c -> {
            ProxyVersions x = informed(2, 2);
            c.due("read(1, 0, 2)", x.read(1, 0, 2), 0);
            c.due("kept(1, 0)", x.kept(1, 0), 2);
            c.due("kept(1, 1)", x.kept(1, 1), 3);
            c.due("proxy(1, 5)", x.proxy(1, 5), 2);
            Scenes.give(x, 0, "1");
            c.due("it goes before 3", x.kept(1, 0), 3);
        }).brokenBy("int fetchContent(", "if (hops > 0) {", "if (hops >= 0) {")
                .brokenBy("int fetchContent(", "if (hops > 0) {",
                        "Line line = state.contentsOf(proxy);"
                                + " if (hops == 0) { line.removeAt(0); line.append(update); } if (hops > 0) {");
    }

    private static void askingAbove(Sentences s) {
        s.says("A proxy asks upward as follows: first, its parent", c -> {
            // 1, 2 and 3 lack versions 1 and 2, 4 is a child of the root, 5 of 1
            ProxyVersions x = lacking(4, "001");
            x.addProxy(0);
            x.addProxy(1);
            c.due("ask(3): what its parent learns first, it learns then", x.ask(3), 2);
            for (int proxy = 1; proxy <= 3; proxy++) {
                c.due("served(" + proxy + ", 0)", x.served(proxy, 0), 3);
            }
            ProxyVersions y = lacking(4, "001");
            y.addProxy(2);
            c.due("ask(4): the parents learn, 4 itself has nothing to ask for", y.ask(4), 0);
            c.due("served(2, 0), above it", y.served(2, 0), 3);
            c.due("served(3, 0), not above it", y.served(3, 0), 0);
        }).brokenBy("int askUpward(", "asking == proxy || state.isAbove(asking, proxy)", "asking == proxy")
                .brokenBy("int askUpward(", "asking == proxy || state.isAbove(asking, proxy)", "asking > ROOT")
                .brokenBy("int askUpward(", "int asking = 1; asking < MAX_PROXIES && asking <= proxy; asking++",
                        "int asking = proxy; asking >= 1; asking--");
        s.says("if it is not the root, asks upward.", c -> {
            ProxyVersions x = Scenes.fork();
            x.setHome(0, 2);
            Scenes.write(x, 0, 2);
            x.lose(2, 0, 1);
            x.deliver(2, 0, 1);
            x.deliver(1, 0, 1);
            x.deliver(3, 1, 1);
            c.due("the root lacks 1", x.exception(0, 0, 0), 1);
            c.due("ask(3): the root has nobody to ask", x.ask(3), -9);
            c.due("the root lacks 1 still", x.exception(0, 0, 0), 1);
        }).brokenBy("private void findGapsToFill(", "state.knows(parent, origin, version)", "true");
    }

    /** A line of proxies; the root writes origin 0, and all the others get the versions with '1' alone. */
    private static ProxyVersions lacking(int proxies, String signs) {
        ProxyVersions x = Scenes.give(Scenes.line(proxies), 0, signs);
        for (int child = 2; child < proxies; child++) {
            x.deliver(child, 1, 9);
        }
        return x;
    }

    private static void askingForExceptions(Sentences s) {
        s.says("Then, for each exception of the proxy", c -> {
            ProxyVersions x = lacking(2, "0110100");
            c.due("1 and 4, not what is above the bound", x.ask(1), 2);
            c.due("bound(1, 0)", x.bound(1, 0), 5);
            c.due("served(1, 0)", x.served(1, 0), 5);
            c.due("nothing is left to ask for", x.ask(1), -9);
        }).brokenBy("private void findGapsToFill(", "version < bound", "version <= MAX_VERSIONS")
                .brokenBy("private void findGapsToFill(", "int version = 1;", "int version = 2;")
                .brokenBy("private void findGapsToFill(", "version < bound", "version < bound - 1");
        s.says("by ascending origins and then by ascending versions", c -> {
            ProxyVersions x = Scenes.line(3);
            Scenes.give(x, 3, "001");
            Scenes.give(x, 1, "001");
            c.due("ask(1)", x.ask(1), 4);
            int[] due = {303, 103, 101, 102, 301, 302};
            for (int index = 0; index < due.length; index++) {
                c.due("kept(1, " + index + ")", x.kept(1, index), due[index]);
                c.due("queued(2, 1, " + index + ")", x.queued(2, 1, index), due[index]);
            }
        }).brokenBy("private void findGapsToFill(", "int origin = 0; origin < ORIGINS; origin++",
                "int origin = ORIGINS - 1; origin >= 0; origin--")
                .brokenBy("private void findGapsToFill(", "int version = 1; version < bound; version++",
                        "int version = bound - 1; version >= 1; version--");
        s.says("(as they were before)", c -> {
            // with 3 there would be the two ranges 1 to 2 and 4, with 4 and then 3 there is one
            ProxyVersions x = halfKnown();
            c.due("ask(2)", x.ask(2), 1);
            c.due("3 was refused before 4 came, and is not asked for again", x.count(4), 1);
            c.due("exception(2, 0, 2)", x.exception(2, 0, 2), 3);
            c.due("ask(2) again", x.ask(2), 1);
            c.due("exceptions then", x.proxy(2, 7), 2);
        }).brokenBy("private void findGapsToFill(", "for (int version = 1; version < bound; version++) {",
                "for (int round = 0; round < 2 * bound - 2; round++) { int version = 1 + round % (bound - 1);");
        s.says("if the parent knows the update", c -> {
            ProxyVersions x = halfKnown();
            x.setLimits(8, 12);
            c.due("ask(2): 3 and 4, not 1 and 2, which the parent lacks", x.ask(2), 2);
            c.due("exceptions", x.proxy(2, 7), 2);
            c.due("the parent's exceptions", x.proxy(1, 7), 2);
            c.due("nothing to ask for", x.ask(2), -9);
        }).brokenBy("private void findGapsToFill(", "&& state.knows(parent, origin, version)", "");
        s.says("it arrives at the proxy from the parent.", c -> {
            ProxyVersions x = Scenes.give(Scenes.fork(), 0, "01");
            x.deliver(2, 1, 1);
            x.ask(1);
            c.due("not back to the parent", x.queued(1, 0, -1), 0);
            c.due("on to the child 2", x.queued(2, 1, 0), 1);
            c.due("on to the child 3", x.queued(3, 1, 1), 1);
            c.due("its content is kept", x.kept(1, 1), 1);
            c.due("the parent's queue is not touched", x.queued(1, 1, -1), 0);
            ProxyVersions y = Scenes.give(Scenes.star(1), 0, "001");
            y.setLimits(0, 12);
            c.due("1 leaves 2, 2 leaves 1: both are refused", y.ask(1) + 10 * y.count(4), 20);
        }).brokenBy("int askUpward(", "arrive(asking, state.parentOf(asking),", "arrive(asking, NOBODY,");
    }

    /**
     * Proxy 1 has the children 2 and 3; of the versions 1 to 5 of origin 0, which 3 has written, it knows 3 to 5, and
     * 2 knows 5 alone; the limit is 1 range.
     */
    private static ProxyVersions halfKnown() {
        ProxyVersions x = Scenes.line(3);
        x.addProxy(1);
        x.setHome(0, 3);
        Scenes.write(x, 0, 5);
        x.lose(3, 0, 2);
        x.deliver(3, 0, 3);
        x.lose(2, 1, 2);
        x.deliver(2, 1, 1);
        x.setLimits(1, 12);
        return x;
    }
}

/**
 * Tests of the sentences of Promises 12 to 17, 20 and 21: bound, exception, served, status, missing, kept, covers,
 * upToDate.
 */
final class KnowledgeSentences {
    private KnowledgeSentences() {
    }

    static void tell(Sentences s) {
        bound(s);
        exception(s);
        exceptionErrors(s);
        served(s);
        status(s);
        statusErrors(s);
        missing(s);
        missingErrors(s);
        kept(s);
        keptErrors(s);
        covers(s);
        upToDate(s);
    }

    /** The root with children 1 and 2; 1 knows 2, 3 and 6 of the 7 updates of origin 1, and 2 of origin 3. */
    private static ProxyVersions known() {
        ProxyVersions x = Scenes.give(Scenes.star(2), 1, "0110010");
        return Scenes.give(x, 3, "11");
    }

    private static void bound(Sentences s) {
        s.under("Promise 12: bound");
        s.says("Returns the bound of a proxy for an origin.", c -> {
            ProxyVersions x = known();
            int[][] due = {{0, 7, 0, 2}, {0, 6, 0, 2}, {0, 0, 0, 0}};
            for (int proxy = 0; proxy <= 2; proxy++) {
                for (int origin = 0; origin <= 3; origin++) {
                    c.due("bound(" + proxy + ", " + origin + ")", x.bound(proxy, origin), due[proxy][origin]);
                }
            }
        }).brokenBy("public int bound(", "state.knownOf(proxy, origin)", "state.knownOf(0, origin)");
        s.says("`proxy`: number of a proxy", c ->
            Scenes.right(c, () -> Scenes.star(7), "bound(#, 0)", (x, n) -> x.bound(n, 0), 0, 7))
                .brokenBy("public int bound(", "!state.hasProxy(proxy)", "!state.hasProxy(proxy + 1)")
                .brokenBy("public int bound(", "!state.hasProxy(proxy)", "!state.hasChild(proxy)");
        s.says("`origin`: 0 to 3", c -> {
            ProxyVersions x = new ProxyVersions();
            for (int origin = 0; origin <= 3; origin++) {
                Scenes.write(x, origin, origin + 1);
                c.due("bound(0, " + origin + ")", x.bound(0, origin), origin + 1);
            }
        }).brokenBy("public int bound(", "!isOrigin(origin)", "!isOrigin(origin) || origin == 3")
                .brokenBy("public int bound(", "!isOrigin(origin)", "!isOrigin(origin) || origin == 0");
        s.says("Returns the bound;", c -> {
            ProxyVersions x = Scenes.star(1);
            for (int version = 1; version <= 24; version++) {
                Scenes.give(x, 2, version % 3 == 0 ? "1" : "0");
                c.due("bound(1, 2)", x.bound(1, 2), version / 3 * 3);
                c.due("bound(0, 2)", x.bound(0, 2), version);
            }
        }).brokenBy("public int bound(", "Versions.greatest(", "Versions.prefixOf(");
        s.says("INVALID_ARGUMENT if an argument is out of range.", c -> {
            Scenes.wrong(c, KnowledgeSentences::known, "bound(#, 0)", (x, n) -> x.bound(n, 0), -1, 3, 8);
            Scenes.wrong(c, KnowledgeSentences::known, "bound(0, #)", (x, n) -> x.bound(0, n), -1, 4);
        }).brokenBy("public int bound(", "!state.hasProxy(proxy) ||", "")
                .brokenBy("public int bound(", "|| !isOrigin(origin)", "")
                .brokenBy("public int bound(", "return INVALID_ARGUMENT;", "return 0;");
    }

    private static void exception(Sentences s) {
        s.under("Promise 13: exception");
        s.says("Returns an exception.", c -> {
            int[] due = {1, 4, 5};
            for (int index = 0; index < due.length; index++) {
                c.due("exception(1, 1, " + index + ")", known().exception(1, 1, index), due[index]);
            }
        }).brokenBy("static int exceptionAt(", "return version;", "return index;");
        s.says("`proxy`: number of a proxy", c ->
            Scenes.right(c, () -> Scenes.star(7), "exception(#, 0, -1)", (x, n) -> x.exception(n, 0, -1), 0, 7))
                .brokenBy("public int exception(", "!state.hasProxy(proxy)", "!state.hasProxy(proxy + 1)")
                .brokenBy("public int exception(", "!state.hasProxy(proxy)", "!state.hasChild(proxy)");
        s.says("`origin`: 0 to 3", c -> {
            for (int origin = 0; origin <= 3; origin++) {
                ProxyVersions x = Scenes.give(Scenes.star(1), origin, "101");
                for (int of = 0; of <= 3; of++) {
                    c.due("exception(1, " + of + ", 0)", x.exception(1, of, 0), of == origin ? 2 : -9);
                }
            }
        }).brokenBy("public int exception(", "!isOrigin(origin)", "!isOrigin(origin) || origin == 3")
                .brokenBy("public int exception(", "state.knownOf(proxy, origin)", "state.knownOf(proxy, 1)");
        s.says("`index`: from 0, by ascending versions;", c -> {
            ProxyVersions x = Scenes.give(Scenes.star(1), 0, "000000000000000000000001");
            for (int index = 0; index <= 22; index++) {
                c.due("exception(1, 0, " + index + ")", x.exception(1, 0, index), index + 1);
            }
        }).brokenBy("static int exceptionAt(", "int before = 0;", "int before = 1;")
                .brokenBy("static int exceptionAt(", "int version = 1; version <= MAX_VERSIONS; version++",
                        "int version = greatest(set) - 1; version >= 1; version--");
        s.says("or -1 for the number of ranges", c -> {
            ProxyVersions x = known();
            c.due("exception(1, 1, -1)", x.exception(1, 1, -1), 2);
            c.due("exception(1, 3, -1)", x.exception(1, 3, -1), 0);
            c.due("exception(2, 1, -1)", x.exception(2, 1, -1), 0);
            c.due("exception(0, 1, -1)", x.exception(0, 1, -1), 0);
        }).brokenBy("public int exception(", "Versions.rangesIn(known)", "Versions.exceptionsIn(known)")
                .brokenBy("public int exception(", "return Versions.rangesIn(known);",
                        "int ranges = Versions.rangesIn(known); return ranges > 0 ? ranges : NONE;");
        s.says("Returns the version, or the number of ranges;", c -> {
            ProxyVersions x = Scenes.star(1);
            Scenes.give(x, 0, "0101010101010101");
            c.due("the most ranges", x.exception(1, 0, -1), 8);
            for (int index = 0; index <= 7; index++) {
                c.due("exception(1, 0, " + index + ")", x.exception(1, 0, index), 2 * index + 1);
            }
        }).brokenBy("static int rangesIn(", "Integer.bitCount(~set & set >> 1)",
                        "Math.min(Integer.bitCount(~set & set >> 1), 7)")
                .brokenBy("static int exceptionAt(", "return version;", "return 100 + version;");
    }

    private static void exceptionErrors(Sentences s) {
        s.says("INVALID_ARGUMENT if proxy or origin is out of range, or index is less than -1;", c -> {
            Scenes.wrong(c, KnowledgeSentences::known, "exception(#, 1, 0)", (x, n) -> x.exception(n, 1, 0), -1, 3, 8);
            Scenes.wrong(c, KnowledgeSentences::known, "exception(1, #, 0)", (x, n) -> x.exception(1, n, 0), -1, 4);
            c.due("exception(1, 1, -2)", known().exception(1, 1, -2), -1);
            c.due("exception(1, 1, least)", known().exception(1, 1, Integer.MIN_VALUE), -1);
        }).brokenBy("public int exception(", "!state.hasProxy(proxy) ||", "")
                .brokenBy("public int exception(", "!isOrigin(origin) ||", "")
                .brokenBy("public int exception(", "|| index < HOW_MANY", "")
                .brokenBy("public int exception(", "index < HOW_MANY", "index < HOW_MANY - 1");
        s.says("NONE if there are not so many exceptions.", c -> {
            ProxyVersions x = known();
            c.due("exception(1, 1, 2)", x.exception(1, 1, 2), 5);
            c.due("exception(1, 1, 3)", x.exception(1, 1, 3), -9);
            c.due("exception(1, 1, 24)", x.exception(1, 1, 24), -9);
            c.due("exception(1, 1, greatest)", x.exception(1, 1, Integer.MAX_VALUE), -9);
            c.due("exception(0, 1, 0)", x.exception(0, 1, 0), -9);
            c.due("exception(2, 1, 0), of which it knows none", x.exception(2, 1, 0), -9);
            c.due("exception(1, 0, 0), of which none is written", x.exception(1, 0, 0), -9);
        }).brokenBy("public int exception(", "index < Versions.exceptionsIn(known)",
                        "index <= Versions.exceptionsIn(known)")
                .brokenBy("public int exception(", ": NONE", ": INVALID_ARGUMENT");
    }

    private static void served(Sentences s) {
        s.under("Promise 14: served");
        s.says("Returns the served prefix of a proxy for an origin.", c -> {
            ProxyVersions x = Scenes.give(Scenes.star(2), 0, "1101");
            Scenes.give(x, 3, "1");
            int[][] due = {{4, 0, 0, 1}, {2, 0, 0, 0}, {0, 0, 0, 0}};
            for (int proxy = 0; proxy <= 2; proxy++) {
                for (int origin = 0; origin <= 3; origin++) {
                    c.due("served(" + proxy + ", " + origin + ")", x.served(proxy, origin), due[proxy][origin]);
                }
            }
        }).brokenBy("public int served(", "causality.servedOf(proxy, origin)",
                        "Versions.prefixOf(state.knownOf(proxy, origin))")
                .brokenBy("int servedOf(", "findServed(proxy);", "");
        s.says("`proxy`: number of a proxy", c ->
            Scenes.right(c, () -> Scenes.star(7), "served(#, 0)", (x, n) -> x.served(n, 0), 0, 7))
                .brokenBy("public int served(", "!state.hasProxy(proxy)", "!state.hasProxy(proxy + 1)")
                .brokenBy("public int served(", "!state.hasProxy(proxy)", "!state.hasChild(proxy)");
        s.says("`origin`: 0 to 3", c -> {
            ProxyVersions x = new ProxyVersions();
            for (int origin = 0; origin <= 3; origin++) {
                Scenes.write(x, origin, origin + 1);
                c.due("served(0, " + origin + ")", x.served(0, origin), origin + 1);
            }
        }).brokenBy("public int served(", "!isOrigin(origin)", "!isOrigin(origin) || origin == 3")
                .brokenBy("public int served(", "!isOrigin(origin)", "!isOrigin(origin) || origin == 0");
        s.says("Returns the prefix;", c -> {
            ProxyVersions x = Scenes.star(1);
            for (int version = 1; version <= 24; version++) {
                Scenes.give(x, 1, version == 20 ? "0" : "1");
                c.due("served(0, 1)", x.served(0, 1), version);
                c.due("served(1, 1)", x.served(1, 1), Math.min(version, 19));
            }
        }).brokenBy("public int served(", "causality.servedOf(proxy, origin)", "state.knownCount(proxy)");
        s.says("INVALID_ARGUMENT if an argument is out of range.", c -> {
            Scenes.wrong(c, KnowledgeSentences::known, "served(#, 0)", (x, n) -> x.served(n, 0), -1, 3, 8);
            Scenes.wrong(c, KnowledgeSentences::known, "served(0, #)", (x, n) -> x.served(0, n), -1, 4);
        }).brokenBy("public int served(", "!state.hasProxy(proxy) ||", "")
                .brokenBy("public int served(", "|| !isOrigin(origin)", "")
                .brokenBy("public int served(", "return INVALID_ARGUMENT;", "return 0;");
    }

    /** Proxy 1 gets 201, 202 and 204 of the 5 updates of origin 2; as M is 2, it keeps 202 and 204. */
    private static ProxyVersions told() {
        ProxyVersions x = Scenes.star(1);
        x.setLimits(8, 2);
        return Scenes.give(x, 2, "11010");
    }

    private static void status(Sentences s) {
        s.under("Promise 15: status");
        s.says("Tells the status of an update at a proxy.", c -> {
            int[][] due = {{3, 3, 3, 3, 3}, {2, 3, 0, 1, 0}};
            for (int proxy = 0; proxy <= 1; proxy++) {
                for (int version = 1; version <= 5; version++) {
                    int answer = told().status(proxy, 2, version);
                    c.due("status(" + proxy + ", 2, " + version + ")", answer, due[proxy][version - 1]);
                }
            }
        }).brokenBy("public int status(", "state.knows(proxy, origin, version)", "state.knows(0, origin, version)");
        s.says("`proxy`: number of a proxy", c ->
            Scenes.right(c, () -> Scenes.write(Scenes.star(7), 0, 1), "status(#, 0, 1)",
                    (x, n) -> x.status(n, 0, 1), 0, 7))
                .brokenBy("public int status(", "!state.hasProxy(proxy)", "!state.hasProxy(proxy + 1)")
                .brokenBy("public int status(", "!state.hasProxy(proxy)", "!state.hasChild(proxy)");
        s.says("`origin`: 0 to 3", c -> {
            for (int origin = 0; origin <= 3; origin++) {
                ProxyVersions x = Scenes.write(new ProxyVersions(), origin, 1);
                c.due("status(0, " + origin + ", 1)", x.status(0, origin, 1), 3);
            }
        }).brokenBy("public int status(", "!state.wasWritten(origin, version)",
                        "!state.wasWritten(origin, version) || origin == 3")
                .brokenBy("public int status(", "updateOf(origin, version)", "updateOf(0, version)");
        s.says("`version`: version of an update that was written", c -> {
            ProxyVersions x = Scenes.write(new ProxyVersions(), 1, 24);
            for (int version = 1; version <= 24; version++) {
                c.due("status(0, 1, " + version + ")", x.status(0, 1, version), 3);
            }
        }).brokenBy("boolean wasWritten(", "version <= writtenOf(origin)", "version < writtenOf(origin)")
                .brokenBy("boolean wasWritten(", "version >= 1", "version > 1");
        s.says("Returns 0 if the proxy does not know it", c -> {
            c.due("below the bound", told().status(1, 2, 3), 0);
            c.due("above the bound", told().status(1, 2, 5), 0);
        }).brokenBy("public int status(", "return 0;", "return 1;");
        s.says("1 if it knows it but does not serve it", c -> {
            c.due("kept", told().status(1, 2, 4), 1);
            ProxyVersions x = Scenes.star(1);
            x.setLimits(8, 1);
            Scenes.give(x, 0, "011");
            c.due("kept(1, 0)", x.kept(1, 0), 3);
            c.due("not kept", x.status(1, 0, 2), 1);
        }).brokenBy("public int status(", "return 1;", "return 3;")
                .brokenBy("public int status(", "version > causality.servedOf(proxy, origin)", "version > 20");
        s.says("2 if it serves it but does not keep its content", c -> {
            ProxyVersions x = told();
            c.due("status(1, 2, 1)", x.status(1, 2, 1), 2);
            c.due("kept(1, 0)", x.kept(1, 0), 202);
        }).brokenBy("public int status(", "? 3 : 2", "? 3 : 1").brokenBy("public int status(", "? 3 : 2", "? 3 : 3");
        s.says("3 if it serves it and keeps its content;", c -> {
            ProxyVersions x = told();
            c.due("status(1, 2, 2)", x.status(1, 2, 2), 3);
            x.read(1, 2, 1);
            c.due("status(1, 2, 1), fetched", x.status(1, 2, 1), 3);
            c.due("status(1, 2, 2), evicted", x.status(1, 2, 2), 2);
        }).brokenBy("public int status(", "? 3 : 2", "? 2 : 3").brokenBy("public int status(", "? 3 : 2", "? 2 : 2");
    }

    private static void statusErrors(Sentences s) {
        s.says("INVALID_ARGUMENT if an argument is out of range", c -> {
            Scenes.wrong(c, KnowledgeSentences::told, "status(#, 2, 1)", (x, n) -> x.status(n, 2, 1), -1, 2, 8);
            Scenes.wrong(c, KnowledgeSentences::told, "status(1, #, 1)", (x, n) -> x.status(1, n, 1), -1, 4);
        }).brokenBy("public int status(", "!state.hasProxy(proxy) ||", "")
                .brokenBy("public int status(", "!state.wasWritten(origin, version)", "version < 1 || version > 5")
                .brokenBy("public int status(", "return INVALID_ARGUMENT;", "return 0;");
        s.says("or there is no such update.", c -> {
            Scenes.wrong(c, KnowledgeSentences::told, "status(0, 2, #)", (x, n) -> x.status(0, 2, n), -1, 0, 6, 24, 25);
            Scenes.wrong(c, KnowledgeSentences::told, "status(0, 0, #)", (x, n) -> x.status(0, 0, n), 0, 1);
        }).brokenBy("public int status(", "|| !state.wasWritten(origin, version)", "")
                .brokenBy("boolean wasWritten(", "version >= 1", "version >= 0")
                .brokenBy("boolean wasWritten(", "version <= writtenOf(origin)", "version <= writtenOf(origin) + 1");
    }

    /** At the root 301, then 1 and 2 with the cause 301; at 1, which knows 301 and 1, 201; 2 knows nothing. */
    private static ProxyVersions chained() {
        ProxyVersions x = Scenes.star(2);
        x.setHome(2, 1);
        x.write(3);
        Scenes.write(x, 0, 2);
        x.deliver(1, 1, 2);
        x.write(2);
        x.deliver(1, 0, 1);
        return x;
    }

    private static void missing(Sentences s) {
        s.under("Promise 16: missing");
        s.says("Counts the updates that keep a proxy from serving an update", c -> {
            ProxyVersions x = chained();
            c.due("missing(1, 2, 1), which it serves", x.missing(1, 2, 1), 0);
            c.due("missing(1, 0, 1), which it serves", x.missing(1, 0, 1), 0);
            c.due("missing(0, 0, 2), which it serves", x.missing(0, 0, 2), 0);
            c.due("missing(1, 0, 2)", x.missing(1, 0, 2), 1);
            c.due("missing(2, 0, 2)", x.missing(2, 0, 2), 3);
        }).brokenBy("public int missing(", "causality.countMissing(proxy, origin, version)",
                "version - causality.servedOf(proxy, origin)");
        s.says("those that the proxy does not know", c -> {
            ProxyVersions x = chained();
            // 2 loses 301, gets 1, loses 2 and gets 201
            x.lose(2, 1, 1);
            x.deliver(2, 1, 1);
            x.lose(2, 1, 1);
            x.deliver(2, 1, 1);
            c.due("301 alone", x.missing(2, 2, 1), 1);
            c.due("301 for 1, which it knows", x.missing(2, 0, 1), 1);
            c.due("301 and 2 for 2", x.missing(2, 0, 2), 2);
        }).brokenBy("int countMissing(", "if (!state.knows(proxy, each, needed)) { missing++; }", "missing++;")
                .brokenBy("int countMissing(", "!state.knows(proxy, each, needed)", "needed > prefixFound(each)");
        s.says("among the update", c -> {
            c.due("missing(2, 3, 1), without causes", chained().missing(2, 3, 1), 1);
            c.due("missing(1, 0, 2), of which it knows all causes", chained().missing(1, 0, 2), 1);
        }).brokenBy("private void findNeeds(", "each == origin ? version : 0", "each == origin ? version - 1 : 0");
        s.says("its causes", c -> {
            c.due("missing(2, 0, 1): 1 and 301", chained().missing(2, 0, 1), 2);
            c.due("missing(2, 0, 2): 2, 1 and 301", chained().missing(2, 0, 2), 3);
        }).brokenBy("private boolean addCausesOf(", "number > needs[of]", "number > 24");
        s.says("their causes, and so on.", c -> {
            c.due("missing(2, 2, 1): 201, 1 and 301, each once", chained().missing(2, 2, 1), 3);
            ProxyVersions x = Scenes.star(2);
            for (int origin = 0; origin <= 3; origin++) {
                Scenes.write(x, origin, 6);
            }
            c.due("missing(2, 3, 6): all", x.missing(2, 3, 6), 24);
            c.due("missing(2, 3, 1): all but 302 to 306", x.missing(2, 3, 1), 19);
            c.due("missing(2, 0, 6): of one origin", x.missing(2, 0, 6), 6);
        }).brokenBy("int countMissing(", "each < ORIGINS", "each < ORIGINS - 1")
                .brokenBy("int countMissing(", "missing++;", "missing += needed;");
    }

    private static void missingErrors(Sentences s) {
        s.says("`proxy`: number of a proxy", c ->
            Scenes.right(c, () -> Scenes.write(Scenes.star(7), 0, 1), "missing(#, 0, 1)",
                    (x, n) -> x.missing(n, 0, 1), 0, 7))
                .brokenBy("public int missing(", "!state.hasProxy(proxy)", "!state.hasProxy(proxy + 1)")
                .brokenBy("public int missing(", "!state.hasProxy(proxy)", "!state.hasChild(proxy)");
        s.says("`origin`: 0 to 3", c -> {
            ProxyVersions x = Scenes.star(1);
            for (int origin = 0; origin <= 3; origin++) {
                x.write(origin);
                c.due("missing(1, " + origin + ", 1)", x.missing(1, origin, 1), origin + 1);
            }
        }).brokenBy("public int missing(", "!state.wasWritten(origin, version)",
                        "!state.wasWritten(origin, version) || origin == 3")
                .brokenBy("public int missing(", "!state.wasWritten(origin, version)",
                        "!state.wasWritten(origin, version) || origin == 0");
        s.says("`version`: version of an update that was written", c -> {
            ProxyVersions x = Scenes.write(Scenes.star(1), 1, 24);
            for (int version = 1; version <= 24; version++) {
                c.due("missing(1, 1, " + version + ")", x.missing(1, 1, version), version);
            }
        }).brokenBy("boolean wasWritten(", "version <= writtenOf(origin)", "version < writtenOf(origin)")
                .brokenBy("boolean wasWritten(", "version >= 1", "version > 1");
        s.says("Returns their number;", c -> {
            ProxyVersions x = Scenes.star(1);
            for (int origin = 0; origin <= 3; origin++) {
                Scenes.write(x, origin, 24);
            }
            c.due("the most", x.missing(1, 3, 24), 96);
            c.due("the least", x.missing(0, 3, 24), 0);
        }).brokenBy("int countMissing(", "return missing;", "return Math.min(missing, 72);")
                .brokenBy("int countMissing(", "return missing;", "return missing > 0 ? missing : NONE;");
        s.says("INVALID_ARGUMENT if an argument is out of range", c -> {
            Scenes.wrong(c, KnowledgeSentences::told, "missing(#, 2, 1)", (x, n) -> x.missing(n, 2, 1), -1, 2, 8);
            Scenes.wrong(c, KnowledgeSentences::told, "missing(1, #, 1)", (x, n) -> x.missing(1, n, 1), -1, 4);
        }).brokenBy("public int missing(", "!state.hasProxy(proxy) ||", "")
                .brokenBy("public int missing(", "return INVALID_ARGUMENT;", "return 0;");
        s.says("or there is no such update.", c -> {
            Scenes.wrong(c, KnowledgeSentences::told, "missing(1, 2, #)", (x, n) -> x.missing(1, 2, n), -1, 0, 6, 24);
            Scenes.wrong(c, KnowledgeSentences::told, "missing(1, 0, #)", (x, n) -> x.missing(1, 0, n), 0, 1);
        }).brokenBy("public int missing(", "!state.wasWritten(origin, version)", "version < 1 || version > 24")
                .brokenBy("boolean wasWritten(", "version >= 1", "version >= 0")
                .brokenBy("boolean wasWritten(", "version <= writtenOf(origin)", "version <= writtenOf(origin) + 1");
    }

    private static void kept(Sentences s) {
        s.under("Promise 17: kept");
        s.says("Returns a content that a proxy keeps.", c -> {
            ProxyVersions x = told();
            int[] due = {201, 202, 203, 204, 205};
            for (int index = 0; index < due.length; index++) {
                c.due("kept(0, " + index + ")", x.kept(0, index), due[index]);
            }
            c.due("kept(1, 0)", x.kept(1, 0), 202);
            c.due("kept(1, 1)", x.kept(1, 1), 204);
        }).brokenBy("public int kept(", "state.contentsOf(proxy)", "state.contentsOf(0)");
        s.says("`proxy`: number of a proxy", c ->
            Scenes.right(c, () -> Scenes.star(7), "kept(#, 0)", (x, n) -> x.kept(n, 0), 0, 7))
                .brokenBy("public int kept(", "!state.hasProxy(proxy)", "!state.hasProxy(proxy + 1)")
                .brokenBy("public int kept(", "!state.hasProxy(proxy)", "!state.hasChild(proxy)");
        s.says("`index`: from 0, the one that it has kept for the longest time", c -> {
            ProxyVersions x = Scenes.give(Scenes.star(1), 0, "001");
            x.ask(1);
            Scenes.give(x, 1, "11");
            int[] due = {3, 1, 2, 101, 102};
            for (int index = 0; index < due.length; index++) {
                c.due("kept(1, " + index + ")", x.kept(1, index), due[index]);
            }
            x.setLimits(8, 5);
            x.write(1);
            x.deliver(1, 1, 1);
            c.due("when 3 is evicted", x.kept(1, 0), 1);
            c.due("when 3 is evicted, the newest", x.kept(1, 4), 103);
        }).brokenBy("public int kept(", "contents.at(index)", "contents.at(contents.length() - 1 - index)")
                .brokenBy("void removeAt(", "cells[next - 1] = cells[next];", "cells[index] = cells[next];");
        s.says("Returns 100 * origin + version;", c -> {
            ProxyVersions x = Scenes.write(new ProxyVersions(), 0, 1);
            for (int origin = 1; origin <= 3; origin++) {
                Scenes.write(x, origin, 24);
            }
            c.due("the least", x.kept(0, 0), 1);
            c.due("the first of origin 1", x.kept(0, 1), 101);
            c.due("the greatest", x.kept(0, 72), 324);
        }).brokenBy("public int kept(", "contents.at(index)", "versionOf(contents.at(index))")
                .brokenBy("ORIGIN_FACTOR = 100;", "ORIGIN_FACTOR = 25;");
    }

    private static void keptErrors(Sentences s) {
        s.says("INVALID_ARGUMENT if there is no such proxy, or index is negative;", c -> {
            Scenes.wrong(c, KnowledgeSentences::told, "kept(#, 0)", (x, n) -> x.kept(n, 0), -1, 2, 8);
            for (int index : new int[] {-1, -2, Integer.MIN_VALUE}) {
                c.due("kept(0, " + index + ")", told().kept(0, index), -1);
                c.due("kept(1, " + index + ")", told().kept(1, index), -1);
            }
        }).brokenBy("public int kept(", "!state.hasProxy(proxy) ||", "")
                .brokenBy("public int kept(", "|| index < 0", "")
                .brokenBy("public int kept(", "index < 0", "index < -1");
        s.says("NONE if there are not so many.", c -> {
            c.due("kept(1, 1)", told().kept(1, 1), 204);
            c.due("kept(1, 2)", told().kept(1, 2), -9);
            c.due("kept(0, 4)", told().kept(0, 4), 205);
            c.due("kept(0, 5)", told().kept(0, 5), -9);
            c.due("kept(0, greatest)", told().kept(0, Integer.MAX_VALUE), -9);
            c.due("kept(0, 0) of none", new ProxyVersions().kept(0, 0), -9);
            ProxyVersions full = new ProxyVersions();
            for (int origin = 0; origin <= 3; origin++) {
                Scenes.write(full, origin, 24);
            }
            c.due("kept(0, 96) of the most", full.kept(0, 96), -9);
        }).brokenBy("public int kept(", "index < contents.length()", "index <= contents.length()")
                .brokenBy("public int kept(", ": NONE", ": INVALID_ARGUMENT");
    }

    private static void covers(Sentences s) {
        s.under("Promise 20: covers");
        s.says("Tells whether the knowledge of a proxy covers that of another one.", c -> {
            ProxyVersions x = known();
            int[][] due = {{1, 1, 1}, {0, 1, 1}, {0, 0, 1}};
            for (int proxy = 0; proxy <= 2; proxy++) {
                for (int other = 0; other <= 2; other++) {
                    c.due("covers(" + proxy + ", " + other + ")", x.covers(proxy, other), due[proxy][other]);
                }
            }
        }).brokenBy("public int covers(", "state.knownOf(other, origin) & ~state.knownOf(proxy, origin)",
                "state.knownOf(proxy, origin) & ~state.knownOf(other, origin)");
        s.says("`proxy`: number of a proxy", c ->
            Scenes.right(c, () -> Scenes.star(7), "covers(#, 0)", (x, n) -> x.covers(n, 0), 0, 7))
                .brokenBy("public int covers(", "!state.hasProxy(proxy)", "!state.hasProxy(proxy + 1)")
                .brokenBy("public int covers(", "!state.hasProxy(proxy)", "!state.hasChild(proxy)");
        s.says("`other`: number of a proxy", c ->
            Scenes.right(c, () -> Scenes.star(7), "covers(0, #)", (x, n) -> x.covers(0, n), 0, 7))
                .brokenBy("public int covers(", "!state.hasProxy(other)", "!state.hasProxy(other + 1)")
                .brokenBy("public int covers(", "!state.hasProxy(other)", "!state.hasChild(other)");
        s.says("Returns 1 if the proxy knows all updates that the other one knows", c -> {
            c.due("both know nothing", Scenes.star(1).covers(0, 1), 1);
            c.due("itself", known().covers(1, 1), 1);
            c.due("the same", Scenes.give(Scenes.star(1), 0, "11").covers(1, 0), 1);
            c.due("more", Scenes.give(Scenes.star(1), 0, "0101").covers(0, 1), 1);
        }).brokenBy("public int covers(", "return 1;", "return proxy == other ? 0 : 1;")
                .brokenBy("public int covers(", "& ~state.knownOf(proxy, origin)", "^ state.knownOf(proxy, origin)");
        s.says("otherwise 0;", c -> {
            for (int origin = 0; origin <= 3; origin++) {
                ProxyVersions x = Scenes.give(Scenes.star(1), origin, "101");
                c.due("without one of origin " + origin, x.covers(1, 0), 0);
            }
            ProxyVersions x = Scenes.star(2);
            x.setHome(0, 1);
            x.setHome(1, 2);
            x.write(0);
            x.write(1);
            c.due("each lacks one", x.covers(1, 2) + x.covers(2, 1), 0);
            c.due("as many, but others", Scenes.give(x, 2, "1").covers(1, 2), 0);
            ProxyVersions bounds = Scenes.give(Scenes.star(1), 0, "01");
            c.due("the same bound, but an exception", bounds.covers(1, 0), 0);
        }).brokenBy("public int covers(", "return 0;", "return 1;")
                .brokenBy("public int covers(", "origin < ORIGINS", "origin < ORIGINS - 1")
                .brokenBy("public int covers(", "(state.knownOf(other, origin) & ~state.knownOf(proxy, origin)) != 0",
                        "state.knownOf(other, origin) / 4 > state.knownOf(proxy, origin)");
        s.says("INVALID_ARGUMENT if an argument is out of range.", c -> {
            Scenes.wrong(c, KnowledgeSentences::known, "covers(#, 0)", (x, n) -> x.covers(n, 0), -1, 3, 8);
            Scenes.wrong(c, KnowledgeSentences::known, "covers(0, #)", (x, n) -> x.covers(0, n), -1, 3, 8);
        }).brokenBy("public int covers(", "!state.hasProxy(proxy) ||", "")
                .brokenBy("public int covers(", "|| !state.hasProxy(other)", "");
    }

    private static void upToDate(Sentences s) {
        s.under("Promise 21: upToDate");
        s.says("Counts the proxies that serve all updates that were written.", c -> {
            ProxyVersions x = Scenes.star(2);
            c.due("when nothing is written", x.upToDate(), 3);
            x.setHome(1, 1);
            x.write(1);
            c.due("1 alone", x.upToDate(), 1);
            x.write(0);
            c.due("nobody", x.upToDate(), 0);
            x.deliver(1, 0, 1);
            c.due("the root", x.upToDate(), 1);
            x.deliver(1, 1, 1);
            c.due("and 1", x.upToDate(), 2);
            x.lose(2, 1, 1);
            x.deliver(2, 1, 1);
            c.due("2 lacks one", x.upToDate(), 2);
            ProxyVersions y = Scenes.star(1);
            y.setLimits(8, 1);
            c.due("contents do not matter", Scenes.give(y, 0, "111").upToDate(), 2);
        }).brokenBy("public int upToDate(", "causality.servedCount(proxy)", "state.contentsOf(proxy).length()")
                .brokenBy("public int upToDate(", "== written", ">= written - 1")
                .brokenBy("public int upToDate(", "int proxy = 0;", "int proxy = 1;");
        s.says("Returns their number.", c -> {
            c.due("the most", Scenes.star(7).upToDate(), 8);
            c.due("alone", Scenes.write(new ProxyVersions(), 0, 24).upToDate(), 1);
            c.due("the least", nobody().upToDate(), 0);
        }).brokenBy("public int upToDate(", "proxy < state.proxies", "proxy < state.proxies - 1")
                .brokenBy("public int upToDate(", "return current;", "return Math.max(current, 1);");
    }

    private static ProxyVersions nobody() {
        ProxyVersions x = Scenes.star(1);
        x.setHome(1, 1);
        x.write(1);
        x.write(0);
        return x;
    }
}

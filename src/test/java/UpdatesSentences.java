import java.util.function.Supplier;

/** Tests of the sentences of Promises 7 to 11: write, cause, deliver, lose, queued. */
final class UpdatesSentences {
    private UpdatesSentences() {
    }

    static void tell(Sentences s) {
        write(s);
        cause(s);
        causeErrors(s);
        deliver(s);
        deliverCounts(s);
        deliverErrors(s);
        lose(s);
        loseCounts(s);
        loseErrors(s);
        queued(s);
        queuedIndex(s);
        queuedErrors(s);
    }

    private static void write(Sentences s) {
        s.under("Promise 7: write");
        s.says("Makes a write.", c -> {
            ProxyVersions x = Scenes.star(1);
            x.write(2);
            c.due("count(3)", x.count(3), 1);
            c.due("status(0, 2, 1)", x.status(0, 2, 1), 3);
            c.due("queued(1, 1, 0)", x.queued(1, 1, 0), 201);
        }).brokenBy("state.setWrittenOf(origin, version);", "");
        s.says("`origin`: 0 to 3", c -> {
            Scenes.right(c, ProxyVersions::new, "write(#)", (x, n) -> x.write(n), 0, 3);
            ProxyVersions x = new ProxyVersions();
            for (int origin = 0; origin <= 3; origin++) {
                x.write(origin);
                c.due("kept(0, " + origin + ")", x.kept(0, origin), 100 * origin + 1);
            }
        }).brokenBy("int makeWrite(", "!isOrigin(origin)", "!isOrigin(origin) || origin == 3")
                .brokenBy("int makeWrite(", "!isOrigin(origin)", "!isOrigin(origin) || origin == 0");
        s.says("Returns the version;", c -> {
            ProxyVersions x = new ProxyVersions();
            for (int version = 1; version <= 24; version++) {
                c.due("write(3)", x.write(3), version);
            }
            c.due("write(1)", x.write(1), 1);
        }).brokenBy("int makeWrite(", "return version;", "return version - 1;");
        s.says("INVALID_ARGUMENT if origin is out of range;", c ->
            Scenes.wrong(c, () -> Scenes.star(1), "write(#)", (x, n) -> x.write(n), -1, 4))
                .brokenBy("int makeWrite(", "return INVALID_ARGUMENT;", "return ILLEGAL_STATE;")
                .brokenBy("int makeWrite(", "!isOrigin(origin)", "origin < 0")
                .brokenBy("int makeWrite(", "!isOrigin(origin)", "origin > 3");
        s.says("CAPACITY_EXCEEDED if the origin has written 24 updates.", c -> {
            for (int origin = 0; origin <= 3; origin++) {
                int full = origin;
                Twins twins = new Twins(c, () -> Scenes.write(new ProxyVersions(), full, 24));
                twins.refuse("write(" + origin + ")", x -> x.write(full), -3);
                c.due("another origin", Scenes.write(new ProxyVersions(), full, 24).write(3 - full), 1);
                c.due("with 23", Scenes.write(new ProxyVersions(), full, 23).write(full), 24);
            }
            ProxyVersions x = Scenes.write(new ProxyVersions(), 0, 24);
            x.undo();
            c.due("after undo()", x.write(0), 24);
        }).brokenBy("int makeWrite(", "return CAPACITY_EXCEEDED;", "return ILLEGAL_STATE;")
                .brokenBy("int makeWrite(", ">= MAX_VERSIONS", "> MAX_VERSIONS")
                .brokenBy("int makeWrite(", "state.writtenOf(origin) >=", "state.writtenCount() >=");
    }

    /** 2, at home of origin 0, serves 101, 102 and 301; it has written 1 and 2. */
    private static ProxyVersions caused() {
        ProxyVersions x = Scenes.line(3);
        x.setHome(0, 2);
        x.write(1);
        x.write(1);
        x.write(3);
        x.deliver(1, 1, 9);
        x.deliver(2, 1, 9);
        Scenes.write(x, 0, 2);
        return x;
    }

    private static void cause(Sentences s) {
        s.under("Promise 8: cause");
        s.says("Returns a number of the vector of causes of an update.", c -> {
            ProxyVersions x = caused();
            int[][] due = {
                {0, 1, 0, 2, 0, 1}, {0, 2, 1, 2, 0, 1}, {1, 1, 0, 0, 0, 0}, {1, 2, 0, 1, 0, 0}, {3, 1, 0, 2, 0, 0}
            };
            for (int[] row : due) {
                for (int of = 0; of < 4; of++) {
                    String call = "cause(" + row[0] + ", " + row[1] + ", " + of + ")";
                    c.due(call, x.cause(row[0], row[1], of), row[2 + of]);
                }
            }
        }).brokenBy("public int cause(", "state.causeOf(origin, version, of)", "state.causeOf(of, version, origin)")
                .brokenBy("int causeOf(", "version - 1", "version");
        s.says("`origin`: 0 to 3", c -> {
            ProxyVersions x = new ProxyVersions();
            for (int origin = 0; origin <= 3; origin++) {
                x.write(origin);
                c.due("cause(" + origin + ", 1, 0)", x.cause(origin, 1, 0), origin == 0 ? 0 : 1);
            }
        }).brokenBy("boolean wasWritten(", "isOrigin(origin) &&", "isOrigin(origin) && origin < 3 &&")
                .brokenBy("public int cause(", "!isOrigin(of)", "!isOrigin(of) || origin == 0");
        s.says("`version`: version of an update that was written", c -> {
            ProxyVersions x = Scenes.write(new ProxyVersions(), 2, 24);
            for (int version = 1; version <= 24; version++) {
                c.due("cause(2, " + version + ", 2)", x.cause(2, version, 2), version - 1);
            }
        }).brokenBy("boolean wasWritten(", "version <= writtenOf(origin)", "version < writtenOf(origin)")
                .brokenBy("boolean wasWritten(", "version >= 1", "version > 1");
        s.says("`of`: 0 to 3, the origin for which the number is", c -> {
            ProxyVersions x = new ProxyVersions();
            for (int origin = 0; origin <= 3; origin++) {
                Scenes.write(x, origin, origin + 2);
            }
            x.write(0);
            int[] due = {2, 3, 4, 5};
            for (int of = 0; of <= 3; of++) {
                c.due("cause(0, 3, " + of + ")", x.cause(0, 3, of), due[of]);
            }
        }).brokenBy("public int cause(", "state.causeOf(origin, version, of)", "state.causeOf(origin, version, 3 - of)")
                .brokenBy("public int cause(", "!isOrigin(of)", "!isOrigin(of + 1)")
                .brokenBy("public int cause(", "!isOrigin(of)", "!isOrigin(of - 1)");
        s.says("Returns the number;", c -> {
            ProxyVersions x = Scenes.write(new ProxyVersions(), 1, 24);
            x.write(0);
            c.due("the most", x.cause(0, 1, 1), 24);
            c.due("the least", x.cause(0, 1, 2), 0);
        }).brokenBy("public int cause(", "return state.causeOf", "return 1 + state.causeOf")
                .brokenBy("int makeWrite(", "causality.prefixFound(of)", "Math.min(causality.prefixFound(of), 23)");
    }

    private static void causeErrors(Sentences s) {
        s.says("INVALID_ARGUMENT if origin or of is out of range", c -> {
            Scenes.wrong(c, UpdatesSentences::caused, "cause(#, 1, 0)", (x, n) -> x.cause(n, 1, 0), -1, 4);
            Scenes.wrong(c, UpdatesSentences::caused, "cause(0, 1, #)", (x, n) -> x.cause(0, 1, n), -1, 4);
        }).brokenBy("public int cause(", "!isOrigin(of) ||", "")
                .brokenBy("public int cause(", "!isOrigin(of)", "of < 0")
                .brokenBy("public int cause(", "!isOrigin(of)", "of > 3")
                .brokenBy("private static boolean isOrigin(", "origin < ORIGINS", "origin <= ORIGINS")
                .brokenBy("public int cause(", "return INVALID_ARGUMENT;", "return 0;");
        s.says("or there is no such update.", c -> {
            Scenes.wrong(c, UpdatesSentences::caused, "cause(0, #, 1)", (x, n) -> x.cause(0, n, 1), -1, 0, 3, 24, 25);
            Scenes.wrong(c, UpdatesSentences::caused, "cause(2, #, 1)", (x, n) -> x.cause(2, n, 1), 0, 1);
            ProxyVersions x = caused();
            x.undo();
            c.due("an update that is undone", x.cause(0, 2, 0), -1);
            c.due("the one before it", x.cause(0, 1, 0), 0);
        }).brokenBy("public int cause(", "|| !state.wasWritten(origin, version)", "")
                .brokenBy("boolean wasWritten(", "version <= writtenOf(origin)", "version <= writtenOf(origin) + 1")
                .brokenBy("boolean wasWritten(", "version >= 1", "version >= 0");
    }

    private static void deliver(Sentences s) {
        s.under("Promise 9: deliver");
        s.says("Delivers updates from a queue: the first ones are taken out one after the other and arrive", c -> {
            ProxyVersions x = Scenes.write(Scenes.line(3), 0, 3);
            Scenes.write(x, 1, 2);
            x.deliver(1, 1, 4);
            int[] due = {1, 2, 3, 101};
            for (int index = 0; index < due.length; index++) {
                c.due("kept(1, " + index + ")", x.kept(1, index), due[index]);
                c.due("queued(2, 1, " + index + ")", x.queued(2, 1, index), due[index]);
            }
            c.due("the first one that is left", x.queued(1, 1, 0), 102);
            c.due("left", x.queued(1, 1, -1), 1);
            ProxyVersions y = Scenes.star(1);
            y.setLimits(0, 12);
            Scenes.write(y, 0, 3);
            c.due("one is learned before the next one comes, which makes no range then", y.deliver(1, 1, 3), 3);
        }).brokenBy("int deliverFirst(", "queue.at(0)", "queue.at(queue.length() - 1)")
                .brokenBy("int deliverFirst(", "queue.removeAt(0);", "queue.removeAt(queue.length() - 1);");
        s.says("those of an up queue at the parent from the child", c -> {
            ProxyVersions x = Scenes.fork();
            x.setHome(0, 2);
            x.write(0);
            x.deliver(2, 0, 1);
            c.due("1 knows it", x.bound(1, 0), 1);
            c.due("3 does not", x.bound(3, 0), 0);
            c.due("nothing goes back to 2", x.queued(2, 1, -1), 0);
            c.due("on to 3", x.queued(3, 1, -1), 1);
            c.due("on to the root", x.queued(1, 0, -1), 1);
        }).brokenBy("direction == UP ? parent : child", "direction == UP ? ROOT : child")
                .brokenBy("direction == UP ? child : parent", "parent");
        s.says("those of a down queue at the child from the parent.", c -> {
            ProxyVersions x = Scenes.fork();
            x.write(0);
            x.deliver(1, 1, 1);
            c.due("1 knows it", x.bound(1, 0), 1);
            c.due("nothing goes back to the root", x.queued(1, 0, -1), 0);
            c.due("on to 2", x.queued(2, 1, -1), 1);
            c.due("on to 3", x.queued(3, 1, -1), 1);
        }).brokenBy("direction == UP ? parent : child", "parent").brokenBy("direction == UP ? child : parent", "child");
    }

    /** Twelve updates wait in each queue of both children of the root. */
    private static ProxyVersions crowded() {
        ProxyVersions x = Scenes.star(2);
        x.setHome(1, 1);
        x.setHome(2, 2);
        for (int origin = 0; origin <= 2; origin++) {
            Scenes.write(x, origin, 12);
        }
        return x;
    }

    private static void deliverCounts(Sentences s) {
        s.says("`child`: number of a proxy, not of the root", c -> {
            Scenes.right(c, () -> Scenes.star(7), "deliver(#, 0, 1)", (x, n) -> x.deliver(n, 0, 1), 1, 7);
            c.due("child 1", crowded().deliver(1, 0, 2), 2);
            ProxyVersions x = crowded();
            c.due("child 2", x.deliver(2, 0, 2), 2);
            c.due("bound(0, 2)", x.bound(0, 2), 2);
        }).brokenBy("boolean hasChild(", "child < proxies", "child < proxies - 1")
                .brokenBy("boolean hasChild(", "child > ROOT", "child > ROOT + 1");
        s.says("`direction`: 0 up queue, 1 down queue", c -> {
            ProxyVersions x = crowded();
            c.due("deliver(1, 0, 1)", x.deliver(1, 0, 1), 1);
            c.due("bound(0, 1)", x.bound(0, 1), 1);
            c.due("deliver(1, 1, 1)", x.deliver(1, 1, 1), 1);
            c.due("bound(1, 0)", x.bound(1, 0), 1);
        }).brokenBy("private static final int UP = 0; private static final int DOWN = 1;",
                "private static final int UP = 1; private static final int DOWN = 0;")
                .brokenBy("boolean hasQueue(", "direction == UP || direction == DOWN", "direction == UP");
        s.says("`count`: 1 to 9;", c -> {
            for (int count = 1; count <= 9; count++) {
                ProxyVersions x = crowded();
                c.due("deliver(1, 1, " + count + ")", x.deliver(1, 1, count), count);
                c.due("queued(1, 1, -1)", x.queued(1, 1, -1), 12 - count);
            }
        }).brokenBy("private static boolean isTakeable(", "count >= 1", "count > 1")
                .brokenBy("private static boolean isTakeable(", "count <= MAX_TAKEN", "count < MAX_TAKEN")
                .brokenBy("int deliverFirst(", "taken < count", "taken <= count");
        s.says("if there are not so many updates in the queue, all of them are taken", c -> {
            ProxyVersions x = Scenes.write(Scenes.star(1), 0, 3);
            c.due("deliver(1, 1, 9)", x.deliver(1, 1, 9), 3);
            c.due("queued(1, 1, -1)", x.queued(1, 1, -1), 0);
            c.due("bound(1, 0)", x.bound(1, 0), 3);
            x.write(0);
            c.due("deliver(1, 1, 2)", x.deliver(1, 1, 2), 1);
        }).brokenBy("int deliverFirst(", "if (queue.length() == 0) {", "if (queue.length() < count) {")
                .brokenBy("int deliverFirst(", "&& queue.length() > 0", "");
        s.says("Returns how many were learned;", c -> {
            ProxyVersions x = Scenes.star(1);
            x.setLimits(0, 12);
            Scenes.write(x, 0, 4);
            c.due("deliver(1, 1, 1)", x.deliver(1, 1, 1), 1);
            x.lose(1, 1, 1);
            c.due("two that are refused", x.deliver(1, 1, 2), 0);
            ProxyVersions y = Scenes.give(Scenes.line(3), 0, "01");
            y.deliver(2, 1, 1);
            y.ask(2);
            y.write(0);
            y.deliver(1, 1, 1);
            c.due("one that is known, one that is not", y.deliver(2, 1, 9), 1);
        }).brokenBy("int deliverFirst(", "if (arrive(receiver, sender, update)) { learned++; }",
                "arrive(receiver, sender, update); learned++;");
    }

    /** Of the queues of the children 1 and 2, 101 waits in the first up queue, and 1 and 2 in both down queues. */
    private static ProxyVersions waiting() {
        ProxyVersions x = Scenes.star(2);
        x.setHome(1, 1);
        x.write(1);
        return Scenes.write(x, 0, 2);
    }

    private static void deliverErrors(Sentences s) {
        s.says("INVALID_ARGUMENT if an argument is out of range;", c -> {
            Scenes.wrong(c, UpdatesSentences::waiting, "deliver(#, 1, 1)", (x, n) -> x.deliver(n, 1, 1), -1, 0, 3, 8);
            Scenes.wrong(c, UpdatesSentences::waiting, "deliver(1, #, 1)", (x, n) -> x.deliver(1, n, 1), -1, 2);
            Scenes.wrong(c, UpdatesSentences::waiting, "deliver(1, 1, #)", (x, n) -> x.deliver(1, 1, n), -1, 0, 10);
        }).brokenBy("int deliverFirst(", "!isTakeable(count)", "count < 1")
                .brokenBy("int deliverFirst(", "!isTakeable(count)", "count > 9")
                .brokenBy("private static boolean isTakeable(", "count >= 1", "count >= 0")
                .brokenBy("private static boolean isTakeable(", "count <= MAX_TAKEN", "count <= MAX_TAKEN + 1")
                .brokenBy("boolean hasQueue(", "(direction == UP || direction == DOWN)", "direction >= UP")
                .brokenBy("boolean hasQueue(", "(direction == UP || direction == DOWN)", "direction <= DOWN")
                .brokenBy("boolean hasChild(", "child < proxies", "child <= proxies")
                .brokenBy("boolean hasChild(", "child > ROOT", "child >= ROOT");
        s.says("ILLEGAL_STATE if the queue is empty.", c -> {
            Twins twins = new Twins(c, UpdatesSentences::waiting);
            twins.refuse("deliver(2, 0, 1)", x -> x.deliver(2, 0, 1), -2);
            twins.refuse("deliver(2, 0, 9)", x -> x.deliver(2, 0, 9), -2);
            ProxyVersions x = waiting();
            x.deliver(1, 1, 2);
            c.due("deliver(1, 1, 1), when all are taken", x.deliver(1, 1, 1), -2);
            x.lose(1, 0, 1);
            c.due("deliver(1, 0, 1), when all are lost", x.deliver(1, 0, 1), -2);
        }).brokenBy("int deliverFirst(", "return ILLEGAL_STATE;", "return 0;")
                .brokenBy("int deliverFirst(", "if (queue.length() == 0) { return ILLEGAL_STATE; }", "");
    }

    private static void lose(Sentences s) {
        s.under("Promise 10: lose");
        s.says("Loses updates: the first ones of a queue are removed.", c -> {
            ProxyVersions x = Scenes.write(Scenes.star(1), 0, 5);
            x.lose(1, 1, 2);
            for (int index = 0; index < 3; index++) {
                c.due("queued(1, 1, " + index + ")", x.queued(1, 1, index), index + 3);
            }
            c.due("queued(1, 1, -1)", x.queued(1, 1, -1), 3);
            c.due("bound(1, 0)", x.bound(1, 0), 0);
            c.due("bound(0, 0)", x.bound(0, 0), 5);
            c.due("count(6)", x.count(6), 2);
        }).brokenBy("int loseFirst(", "queue.removeAt(0);", "queue.removeAt(queue.length() - 1);")
                .brokenBy("int loseFirst(", "state.losses += removed;", "");
        s.says("`child`: number of a proxy, not of the root", c -> {
            Scenes.right(c, () -> Scenes.star(7), "lose(#, 0, 1)", (x, n) -> x.lose(n, 0, 1), 1, 7);
            ProxyVersions x = crowded();
            c.due("lose(2, 1, 3)", x.lose(2, 1, 3), 3);
            c.due("queued(2, 1, -1)", x.queued(2, 1, -1), 9);
            c.due("queued(1, 1, -1)", x.queued(1, 1, -1), 12);
        }).brokenBy("boolean hasChild(", "child < proxies", "child < proxies - 1")
                .brokenBy("int loseFirst(", "state.queueOf(child, direction)", "state.queueOf(1, direction)");
        s.says("`direction`: 0 up queue, 1 down queue", c -> {
            ProxyVersions x = crowded();
            c.due("lose(1, 0, 1)", x.lose(1, 0, 1), 1);
            c.due("queued(1, 0, 0)", x.queued(1, 0, 0), 102);
            c.due("queued(1, 1, 0)", x.queued(1, 1, 0), 1);
            c.due("lose(1, 1, 1)", x.lose(1, 1, 1), 1);
            c.due("queued(1, 1, 0)", x.queued(1, 1, 0), 2);
        }).brokenBy("private static final int UP = 0; private static final int DOWN = 1;",
                "private static final int UP = 1; private static final int DOWN = 0;");
    }

    private static void loseCounts(Sentences s) {
        s.says("`count`: 1 to 9;", c -> {
            for (int count = 1; count <= 9; count++) {
                ProxyVersions x = crowded();
                c.due("lose(1, 1, " + count + ")", x.lose(1, 1, count), count);
                c.due("queued(1, 1, -1)", x.queued(1, 1, -1), 12 - count);
            }
        }).brokenBy("private static boolean isTakeable(", "count >= 1", "count > 1")
                .brokenBy("private static boolean isTakeable(", "count <= MAX_TAKEN", "count < MAX_TAKEN")
                .brokenBy("int loseFirst(", "times < removed", "times <= removed");
        s.says("if there are not so many updates in the queue, all of them are removed", c -> {
            ProxyVersions x = Scenes.write(Scenes.star(1), 0, 3);
            c.due("lose(1, 1, 9)", x.lose(1, 1, 9), 3);
            c.due("queued(1, 1, -1)", x.queued(1, 1, -1), 0);
            c.due("count(6)", x.count(6), 3);
            x.write(0);
            c.due("lose(1, 1, 2)", x.lose(1, 1, 2), 1);
        }).brokenBy("int loseFirst(", "Math.min(count, queue.length())", "count")
                .brokenBy("int loseFirst(", "if (queue.length() == 0) {", "if (queue.length() < count) {");
        s.says("Returns how many were removed;", c -> {
            ProxyVersions x = crowded();
            c.due("lose(1, 0, 9)", x.lose(1, 0, 9), 9);
            c.due("lose(1, 0, 9)", x.lose(1, 0, 9), 3);
            c.due("count(6)", x.count(6), 12);
        }).brokenBy("int loseFirst(", "return removed;", "return count;");
    }

    private static void loseErrors(Sentences s) {
        s.says("INVALID_ARGUMENT if an argument is out of range;", c -> {
            Scenes.wrong(c, UpdatesSentences::waiting, "lose(#, 1, 1)", (x, n) -> x.lose(n, 1, 1), -1, 0, 3, 8);
            Scenes.wrong(c, UpdatesSentences::waiting, "lose(1, #, 1)", (x, n) -> x.lose(1, n, 1), -1, 2);
            Scenes.wrong(c, UpdatesSentences::waiting, "lose(1, 1, #)", (x, n) -> x.lose(1, 1, n), -1, 0, 10);
        }).brokenBy("int loseFirst(", "!isTakeable(count)", "count < 1")
                .brokenBy("int loseFirst(", "!isTakeable(count)", "count > 9")
                .brokenBy("int loseFirst(", "!state.hasQueue(child, direction) ||", "")
                .brokenBy("boolean hasChild(", "child < proxies", "child <= proxies")
                .brokenBy("boolean hasChild(", "child > ROOT", "child >= ROOT");
        s.says("ILLEGAL_STATE if the queue is empty.", c -> {
            Twins twins = new Twins(c, UpdatesSentences::waiting);
            twins.refuse("lose(2, 0, 1)", x -> x.lose(2, 0, 1), -2);
            twins.refuse("lose(2, 0, 9)", x -> x.lose(2, 0, 9), -2);
            ProxyVersions x = waiting();
            x.lose(1, 1, 2);
            c.due("lose(1, 1, 1), when all are lost", x.lose(1, 1, 1), -2);
            x.deliver(1, 0, 1);
            c.due("lose(1, 0, 1), when all are taken", x.lose(1, 0, 1), -2);
        }).brokenBy("int loseFirst(", "return ILLEGAL_STATE;", "return 0;")
                .brokenBy("int loseFirst(", "if (queue.length() == 0) { return ILLEGAL_STATE; }", "");
    }

    private static void queued(Sentences s) {
        s.under("Promise 11: queued");
        s.says("Returns an update in a queue.", c -> {
            ProxyVersions x = Scenes.star(2);
            x.setHome(3, 2);
            x.setHome(2, 2);
            int[] origins = {3, 2, 3, 3, 2};
            int[] due = {301, 201, 302, 303, 202};
            for (int origin : origins) {
                x.write(origin);
            }
            for (int index = 0; index < due.length; index++) {
                c.due("queued(2, 0, " + index + ")", x.queued(2, 0, index), due[index]);
            }
        }).brokenBy("public int queued(", "queue.at(index)", "queue.at(0)");
        s.says("`child`: number of a proxy, not of the root", c -> {
            Scenes.right(c, () -> Scenes.star(7), "queued(#, 0, 0)", (x, n) -> x.queued(n, 0, 0), 1, 7);
            c.due("queued(1, 0, 0)", crowded().queued(1, 0, 0), 101);
            c.due("queued(2, 0, 0)", crowded().queued(2, 0, 0), 201);
        }).brokenBy("public int queued(", "state.queueOf(child, direction)", "state.queueOf(1, direction)")
                .brokenBy("boolean hasChild(", "child < proxies", "child < proxies - 1");
        s.says("`direction`: 0 up queue, 1 down queue", c -> {
            c.due("queued(1, 0, 0)", crowded().queued(1, 0, 0), 101);
            c.due("queued(1, 1, 0)", crowded().queued(1, 1, 0), 1);
        }).brokenBy("private static final int UP = 0; private static final int DOWN = 1;",
                "private static final int UP = 1; private static final int DOWN = 0;");
    }

    private static void queuedIndex(Sentences s) {
        s.says("`index`: from 0, the first one;", c -> {
            ProxyVersions x = crowded();
            for (int index = 0; index <= 11; index++) {
                c.due("queued(1, 1, " + index + ")", x.queued(1, 1, index), index + 1);
            }
        }).brokenBy("public int queued(", "queue.at(index)", "queue.at(index - 1)")
                .brokenBy("public int queued(", "queue.at(index)", "queue.at(queue.length() - 1 - index)");
        s.says("or -1 for the number of updates in the queue", c -> {
            ProxyVersions x = Scenes.star(1);
            for (int count = 0; count <= 12; count++) {
                c.due("queued(1, 1, -1)", x.queued(1, 1, -1), count);
                c.due("queued(1, 0, -1)", x.queued(1, 0, -1), 0);
                x.write(0);
            }
            c.due("with an overflow", x.queued(1, 1, -1), 12);
        }).brokenBy("public int queued(", "return queue.length();",
                        "return queue.length() > 0 ? queue.length() : NONE;")
                .brokenBy("public int queued(", "return queue.length();", "return 1 + queue.length();");
        s.says("Returns 100 * origin + version, or the number of updates;", c -> {
            ProxyVersions x = new ProxyVersions();
            Scenes.write(x, 3, 23);
            x.addProxy(0);
            x.write(3);
            x.write(0);
            c.due("the greatest update", x.queued(1, 1, 0), 324);
            c.due("the least one", x.queued(1, 1, 1), 1);
            c.due("their number", x.queued(1, 1, -1), 2);
        }).brokenBy("public int queued(", "queue.at(index)", "versionOf(queue.at(index))")
                .brokenBy("ORIGIN_FACTOR = 100;", "ORIGIN_FACTOR = 25;");
    }

    private static void queuedErrors(Sentences s) {
        s.says("INVALID_ARGUMENT if child or direction is out of range, or index is less than -1;", c -> {
            Supplier<ProxyVersions> scene = () -> Scenes.write(Scenes.star(2), 0, 2);
            Scenes.wrong(c, scene, "queued(#, 1, 0)", (x, n) -> x.queued(n, 1, 0), -1, 0, 3, 8);
            Scenes.wrong(c, scene, "queued(1, #, 0)", (x, n) -> x.queued(1, n, 0), -1, 2);
            c.due("queued(1, 1, -1)", scene.get().queued(1, 1, -1), 2);
            c.due("queued(1, 1, -2)", scene.get().queued(1, 1, -2), -1);
            c.due("queued(1, 1, least)", scene.get().queued(1, 1, Integer.MIN_VALUE), -1);
        }).brokenBy("public int queued(", "!state.hasQueue(child, direction) ||", "")
                .brokenBy("public int queued(", "|| index < HOW_MANY", "")
                .brokenBy("public int queued(", "index < HOW_MANY", "index <= HOW_MANY")
                .brokenBy("public int queued(", "index < HOW_MANY", "index < HOW_MANY - 1")
                .brokenBy("boolean hasChild(", "child > ROOT", "child >= ROOT")
                .brokenBy("boolean hasQueue(", "(direction == UP || direction == DOWN)", "direction >= UP");
        s.says("NONE if there are not so many.", c -> {
            ProxyVersions x = Scenes.write(Scenes.star(1), 0, 2);
            c.due("queued(1, 1, 1)", x.queued(1, 1, 1), 2);
            c.due("queued(1, 1, 2)", x.queued(1, 1, 2), -9);
            c.due("queued(1, 1, 12)", x.queued(1, 1, 12), -9);
            c.due("queued(1, 1, greatest)", x.queued(1, 1, Integer.MAX_VALUE), -9);
            c.due("queued(1, 0, 0), empty", x.queued(1, 0, 0), -9);
            x.lose(1, 1, 1);
            c.due("queued(1, 1, 1), when one has left", x.queued(1, 1, 1), -9);
            c.due("queued(1, 1, 12) of a full one", crowded().queued(1, 1, 12), -9);
        }).brokenBy("public int queued(", "index < queue.length()", "index <= queue.length()")
                .brokenBy("public int queued(", ": NONE", ": INVALID_ARGUMENT");
    }
}

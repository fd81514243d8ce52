/** Promises 7 to 11: write, cause, deliver, lose, queued. */
public final class UpdatesTest {
    private static final Checks CHECKS = new Checks();

    public static void main(String[] args) {
        write();
        writeIsNeverRefused();
        cause();
        causesAreServedAndNotOnlyKnown();
        deliverPassesOn();
        deliverTakesWhatThereIs();
        deliverRefuses();
        overflow();
        evictionOfServed();
        evictionOfUnserved();
        evictionOfTheNewest();
        evictionOfAWrite();
        lose();
        queued();
        CHECKS.end();
    }

    private static void due(String call, int got, int due) {
        CHECKS.due(call, got, due);
    }

    /** Root 0 with child 1, which has the children 2 and 3; origin 0 at home in 2, the others at the root. */
    private static ProxyVersions tree() {
        ProxyVersions x = new ProxyVersions();
        x.addProxy(0);
        x.addProxy(1);
        x.addProxy(1);
        x.setHome(0, 2);
        return x;
    }

    private static ProxyVersions writtenOut() {
        ProxyVersions x = new ProxyVersions();
        for (int version = 1; version <= 24; version++) {
            due("write(3)", x.write(3), version);
        }
        return x;
    }

    private static void write() {
        ProxyVersions x = tree();
        due("write(0)", x.write(0), 1);
        due("write(1)", x.write(1), 1);
        due("write(0)", x.write(0), 2);
        due("known at home", x.proxy(2, 3), 2);
        due("kept at home", x.kept(2, 1), 2);
        due("in the up queue of the home", x.queued(2, 0, 1), 2);
        due("known at the root", x.kept(0, 0), 101);
        due("in the down queue below the root", x.queued(1, 1, 0), 101);
        due("not in the root's own", x.queued(0, 0, 0), -1);

        ProxyVersions middle = tree();
        middle.setHome(2, 1);
        middle.write(2);
        due("a write in the middle goes up", middle.queued(1, 0, 0), 201);
        due("and down to 2", middle.queued(2, 1, 0), 201);
        due("and down to 3", middle.queued(3, 1, 0), 201);
        due("and not to itself", middle.queued(1, 1, -1), 0);

        Twins twins = new Twins(CHECKS, UpdatesTest::writtenOut);
        twins.refuse("write(3) after 24", y -> y.write(3), -3);
        twins.refuse("write(4)", y -> y.write(4), -1);
        twins.refuse("write(-1)", y -> y.write(-1), -1);
        due("another origin", writtenOut().write(0), 1);
    }

    private static void writeIsNeverRefused() {
        ProxyVersions x = new ProxyVersions();
        x.addProxy(0);
        x.setHome(1, 1);
        x.write(0);
        x.write(0);
        x.lose(1, 1, 1);
        x.deliver(1, 1, 1);
        x.setLimits(0, 12);
        due("write(1) with a range over the limit", x.write(1), 1);
        due("it is known", x.bound(1, 1), 1);
        due("nothing is refused", x.count(4), 0);
    }

    private static void cause() {
        ProxyVersions x = tree();
        x.write(1);
        x.write(1);
        x.write(3);
        x.deliver(1, 1, 9);
        x.deliver(2, 1, 9);
        x.write(0);
        x.write(0);
        int[] first = {0, 2, 0, 1};
        int[] second = {1, 2, 0, 1};
        int[] ofThree = {0, 2, 0, 0};
        for (int of = 0; of < 4; of++) {
            due("cause(0, 1, " + of + ")", x.cause(0, 1, of), first[of]);
            due("cause(0, 2, " + of + ")", x.cause(0, 2, of), second[of]);
            due("cause(3, 1, " + of + ")", x.cause(3, 1, of), ofThree[of]);
            due("cause(1, 1, " + of + ")", x.cause(1, 1, of), 0);
        }
        due("cause(0, 3, 0)", x.cause(0, 3, 0), -1);
        due("cause(0, 0, 0)", x.cause(0, 0, 0), -1);
        due("cause(0, -1, 0)", x.cause(0, -1, 0), -1);
        due("cause(2, 1, 0)", x.cause(2, 1, 0), -1);
        due("cause(-1, 1, 0)", x.cause(-1, 1, 0), -1);
        due("cause(4, 1, 0)", x.cause(4, 1, 0), -1);
        due("cause(0, 1, -1)", x.cause(0, 1, -1), -1);
        due("cause(0, 1, 4)", x.cause(0, 1, 4), -1);
        due("cause(0, greatest, 0)", x.cause(0, Integer.MAX_VALUE, 0), -1);
    }

    private static void causesAreServedAndNotOnlyKnown() {
        ProxyVersions x = tree();
        x.write(1);
        x.write(2);
        x.lose(1, 1, 1);
        x.deliver(1, 1, 1);
        x.deliver(2, 1, 1);
        due("2 knows 201", x.bound(2, 2), 1);
        x.write(0);
        due("but does not serve it", x.cause(0, 1, 2), 0);
    }

    private static void deliverPassesOn() {
        ProxyVersions x = tree();
        x.write(0);
        x.write(1);
        due("deliver(2, 0, 1)", x.deliver(2, 0, 1), 1);
        due("1 knows it", x.status(1, 0, 1), 3);
        due("on to the root", x.queued(1, 0, 0), 1);
        due("on to 3", x.queued(3, 1, 0), 1);
        due("not back to 2", x.queued(2, 1, -1), 0);
        due("deliver(1, 1, 1)", x.deliver(1, 1, 1), 1);
        due("down to 2", x.queued(2, 1, 0), 101);
        due("down to 3, behind", x.queued(3, 1, 1), 101);
        due("not back to the root", x.queued(1, 0, -1), 1);
        due("deliver(1, 0, 1)", x.deliver(1, 0, 1), 1);
        due("not back to 1", x.queued(1, 1, -1), 0);
        due("the root serves it", x.status(0, 0, 1), 3);
    }

    private static void deliverTakesWhatThereIs() {
        ProxyVersions x = new ProxyVersions();
        x.addProxy(0);
        for (int version = 1; version <= 11; version++) {
            x.write(0);
        }
        due("deliver(1, 1, 9) of 11", x.deliver(1, 1, 9), 9);
        due("two are left", x.queued(1, 1, -1), 2);
        due("the first of them", x.queued(1, 1, 0), 10);
        due("deliver(1, 1, 9) of 2", x.deliver(1, 1, 9), 2);

        ProxyVersions known = tree();
        known.write(1);
        known.write(1);
        known.lose(1, 1, 1);
        known.deliver(1, 1, 1);
        known.deliver(2, 1, 1);
        due("2 and 1 learn 101", known.ask(2), 1);
        due("which waits for 2 as well", known.queued(2, 1, 0), 101);
        due("what is known already", known.deliver(2, 1, 9), 0);
        due("nothing happens", known.proxy(2, 5), 2);
        due("but the call is saved", known.undo(), 5);
        due("and undone", known.queued(2, 1, -1), 1);
        known.deliver(2, 1, 9);
        due("then the queue is empty", known.deliver(2, 1, 9), -2);
    }

    private static void deliverRefuses() {
        ProxyVersions x = new ProxyVersions();
        x.addProxy(0);
        x.setLimits(1, 12);
        for (int version = 1; version <= 6; version++) {
            x.write(0);
        }
        x.lose(1, 1, 1);
        due("one range is allowed", x.deliver(1, 1, 1), 1);
        x.lose(1, 1, 1);
        due("two are not", x.deliver(1, 1, 2), 0);
        due("both are counted", x.count(4), 2);
        due("both are taken out", x.queued(1, 1, -1), 1);
        due("they are not known", x.bound(1, 0), 2);
        due("nor kept", x.proxy(1, 5), 1);

        ProxyVersions root = new ProxyVersions();
        root.addProxy(0);
        root.setHome(0, 1);
        root.setLimits(0, 1);
        root.write(0);
        root.write(0);
        root.lose(1, 0, 1);
        due("the root refuses nothing", root.deliver(1, 0, 1), 1);
        due("it has a range", root.exception(0, 0, -1), 1);

        Twins twins = new Twins(CHECKS, () -> {
            ProxyVersions y = tree();
            y.write(0);
            return y;
        });
        twins.refuse("deliver(2, 1, 1) of an empty queue", y -> y.deliver(2, 1, 1), -2);
        twins.refuse("deliver(2, 1, 0): the argument comes first", y -> y.deliver(2, 1, 0), -1);
        twins.refuse("deliver(2, 0, 10)", y -> y.deliver(2, 0, 10), -1);
        twins.refuse("deliver(2, 0, 0)", y -> y.deliver(2, 0, 0), -1);
        twins.refuse("deliver(2, 2, 1)", y -> y.deliver(2, 2, 1), -1);
        twins.refuse("deliver(2, -1, 1)", y -> y.deliver(2, -1, 1), -1);
        twins.refuse("deliver(0, 0, 1)", y -> y.deliver(0, 0, 1), -1);
        twins.refuse("deliver(4, 0, 1)", y -> y.deliver(4, 0, 1), -1);
        twins.refuse("deliver(-1, 0, 1)", y -> y.deliver(-1, 0, 1), -1);
        twins.refuse("lose(3, 0, 1) of an empty queue", y -> y.lose(3, 0, 1), -2);
        twins.refuse("lose(3, 0, 0): the argument comes first", y -> y.lose(3, 0, 0), -1);
        twins.refuse("lose(2, 0, 10)", y -> y.lose(2, 0, 10), -1);
        twins.refuse("lose(2, 2, 1)", y -> y.lose(2, 2, 1), -1);
        twins.refuse("lose(2, -1, 1)", y -> y.lose(2, -1, 1), -1);
        twins.refuse("lose(0, 0, 1)", y -> y.lose(0, 0, 1), -1);
        twins.refuse("lose(4, 0, 1)", y -> y.lose(4, 0, 1), -1);
    }

    private static void overflow() {
        ProxyVersions x = new ProxyVersions();
        x.addProxy(0);
        x.addProxy(0);
        for (int version = 1; version <= 12; version++) {
            x.write(0);
        }
        due("twelve have room", x.count(5), 0);
        x.lose(2, 1, 1);
        due("write(0)", x.write(0), 13);
        due("one queue was full", x.count(5), 1);
        due("its last one", x.queued(1, 1, 11), 12);
        due("the other's last one", x.queued(2, 1, 11), 13);
        x.write(0);
        due("both were full", x.count(5), 3);
    }

    private static void evictionOfServed() {
        ProxyVersions x = new ProxyVersions();
        x.addProxy(0);
        x.setLimits(8, 3);
        for (int version = 1; version <= 6; version++) {
            x.write(0);
        }
        // 1 knows 3, 4 before 1 and 2 come: those are not served yet
        x.lose(1, 1, 2);
        x.deliver(1, 1, 2);
        due("ask(1) fills the gap", x.ask(1), 2);
        // 3 4 1 were kept; with 2 all are served, so that the oldest one, 3, goes
        due("evicted", x.count(7), 1);
        due("kept(1, 0)", x.kept(1, 0), 4);
        due("kept(1, 1)", x.kept(1, 1), 1);
        due("kept(1, 2)", x.kept(1, 2), 2);
        due("still known and served", x.status(1, 0, 3), 2);
        due("the root keeps all", x.proxy(0, 5), 6);
    }

    private static void evictionOfUnserved() {
        ProxyVersions x = new ProxyVersions();
        x.addProxy(0);
        x.setLimits(8, 2);
        for (int version = 1; version <= 4; version++) {
            x.write(0);
        }
        x.lose(1, 1, 1);
        x.deliver(1, 1, 3);
        due("none is served: the oldest goes", x.kept(1, 0), 3);
        due("kept(1, 1)", x.kept(1, 1), 4);
        due("still known", x.status(1, 0, 2), 1);
    }

    private static void evictionOfTheNewest() {
        ProxyVersions x = new ProxyVersions();
        x.addProxy(0);
        x.setLimits(8, 1);
        for (int version = 1; version <= 3; version++) {
            x.write(0);
        }
        x.lose(1, 1, 2);
        x.deliver(1, 1, 1);
        // 1 comes, is the only one that is served, and goes; then 2 comes and all are served: 3 goes
        x.write(1);
        x.undo();
        due("ask(1)", x.ask(1), 2);
        due("evictions", x.count(7), 2);
        due("kept(1, 0)", x.kept(1, 0), 2);
        due("status of 1", x.status(1, 0, 1), 2);
        due("status of 3", x.status(1, 0, 3), 2);
    }

    private static void evictionOfAWrite() {
        ProxyVersions x = new ProxyVersions();
        x.addProxy(0);
        x.setLimits(8, 1);
        x.setHome(3, 1);
        x.write(1);
        x.write(0);
        x.lose(1, 1, 1);
        x.deliver(1, 1, 1);
        due("1 keeps what it does not serve", x.status(1, 0, 1), 1);
        due("write(3) at 1", x.write(3), 1);
        due("the write is the only one that it serves, and goes", x.status(1, 3, 1), 2);
        due("kept(1, 0)", x.kept(1, 0), 1);
        due("it waits for the root all the same", x.queued(1, 0, 0), 301);
    }

    private static void lose() {
        ProxyVersions x = tree();
        for (int version = 1; version <= 11; version++) {
            x.write(0);
        }
        due("lose(2, 0, 1)", x.lose(2, 0, 1), 1);
        due("the first is gone", x.queued(2, 0, 0), 2);
        due("lose(2, 0, 9)", x.lose(2, 0, 9), 9);
        due("lose(2, 0, 9) of 1", x.lose(2, 0, 9), 1);
        due("lose(2, 0, 9) of none", x.lose(2, 0, 9), -2);
        due("lost in all", x.count(6), 11);
        due("still known at home", x.proxy(2, 3), 11);
        x.write(1);
        due("lose(1, 1, 2)", x.lose(1, 1, 2), 1);
        due("the other queue stays", x.queued(1, 0, -1), 0);
    }

    private static void queued() {
        ProxyVersions x = tree();
        x.setHome(3, 2);
        x.write(3);
        x.write(0);
        x.write(3);
        due("queued(2, 0, -1)", x.queued(2, 0, -1), 3);
        due("queued(2, 0, 0)", x.queued(2, 0, 0), 301);
        due("queued(2, 0, 1)", x.queued(2, 0, 1), 1);
        due("queued(2, 0, 2)", x.queued(2, 0, 2), 302);
        due("queued(2, 0, 3)", x.queued(2, 0, 3), -9);
        due("queued(2, 0, 12)", x.queued(2, 0, 12), -9);
        due("queued(2, 0, greatest)", x.queued(2, 0, Integer.MAX_VALUE), -9);
        due("queued(2, 1, -1)", x.queued(2, 1, -1), 0);
        due("queued(2, 1, 0)", x.queued(2, 1, 0), -9);
        due("queued(2, 0, -2)", x.queued(2, 0, -2), -1);
        due("queued(2, 2, 0)", x.queued(2, 2, 0), -1);
        due("queued(2, -1, 0)", x.queued(2, -1, 0), -1);
        due("queued(0, 0, 0)", x.queued(0, 0, 0), -1);
        due("queued(4, 0, 9)", x.queued(4, 0, 9), -1);
        due("queued(-1, 0, 0)", x.queued(-1, 0, 0), -1);
    }
}

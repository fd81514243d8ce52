/** Promises 18 and 19: read, ask. */
public final class FetchingTest {
    private static final Checks CHECKS = new Checks();

    public static void main(String[] args) {
        readHops();
        readKeeps();
        readOfNobody();
        readRefuses();
        ask();
        askGoesDown();
        askOfTheMiddleOnly();
        askRefused();
        askRefusedAbove();
        askInOrder();
        askRefuses();
        CHECKS.end();
    }

    private static void due(String call, int got, int due) {
        CHECKS.due(call, got, due);
    }

    /** A line of four proxies, all of which know versions 1 to 3 of origin 0, written at the root. */
    private static ProxyVersions line(int memory) {
        ProxyVersions x = new ProxyVersions();
        x.addProxy(0);
        x.addProxy(1);
        x.addProxy(2);
        x.setLimits(8, memory);
        for (int version = 1; version <= 3; version++) {
            x.write(0);
        }
        for (int child = 1; child <= 3; child++) {
            due("deliver(" + child + ", 1, 9)", x.deliver(child, 1, 9), 3);
        }
        return x;
    }

    private static void readHops() {
        ProxyVersions x = line(1);
        due("read(3, 0, 3) at once", x.read(3, 0, 3), 0);
        due("it changes no content", x.kept(3, 0), 3);
        due("read(0, 0, 1) at the root", x.read(0, 0, 1), 0);
        due("read(1, 0, 1)", x.read(1, 0, 1), 1);
        due("1 keeps it, with an eviction", x.kept(1, 0), 1);
        due("read(3, 0, 1) from 1", x.read(3, 0, 1), 2);
        due("2, on the way, keeps what it kept", x.kept(2, 0), 3);
        due("read(2, 0, 2) from the root", x.read(2, 0, 2), 2);
        due("read(3, 0, 3) from the root", x.read(3, 0, 3), 3);
        due("read(3, 0, 3) again", x.read(3, 0, 3), 0);
    }

    private static void readKeeps() {
        ProxyVersions x = line(2);
        due("kept(1, 0)", x.kept(1, 0), 2);
        due("evictions", x.count(7), 3);
        due("read(1, 0, 2)", x.read(1, 0, 2), 0);
        due("it stays in its place", x.kept(1, 0), 2);
        due("a call is saved", x.count(8), 6);
        due("read(1, 0, 1)", x.read(1, 0, 1), 1);
        due("the oldest is evicted", x.kept(1, 0), 3);
        due("the fetched one is the newest", x.kept(1, 1), 1);
        due("evictions then", x.count(7), 4);
        due("queues stay empty", x.queued(1, 0, -1) + x.queued(2, 1, -1), 0);
        due("undo()", x.undo(), 5);
        due("kept(1, 0) as before", x.kept(1, 0), 2);

        ProxyVersions roomy = line(1);
        roomy.setLimits(8, 12);
        due("read(1, 0, 1) with room", roomy.read(1, 0, 1), 1);
        due("nothing is evicted", roomy.kept(1, 0), 3);
        due("it is kept behind", roomy.kept(1, 1), 1);
    }

    /** What was written below and is evicted there is kept by nobody until it comes to the root. */
    private static ProxyVersions nobody() {
        ProxyVersions x = new ProxyVersions();
        x.addProxy(0);
        x.addProxy(1);
        x.setHome(0, 2);
        x.setLimits(8, 1);
        x.write(0);
        x.write(0);
        return x;
    }

    private static void readOfNobody() {
        Twins twins = new Twins(CHECKS, FetchingTest::nobody);
        twins.refuse("read(2, 0, 1)", x -> x.read(2, 0, 1), -9);
        ProxyVersions x = nobody();
        x.deliver(2, 0, 9);
        due("1 keeps 2 alone, too", x.read(2, 0, 1), -9);
        due("1 itself", x.read(1, 0, 1), -9);
        x.deliver(1, 0, 9);
        due("the root keeps it", x.read(2, 0, 1), 2);
    }

    private static ProxyVersions unserved() {
        ProxyVersions x = new ProxyVersions();
        x.addProxy(0);
        x.write(0);
        x.write(0);
        x.lose(1, 1, 1);
        x.deliver(1, 1, 1);
        return x;
    }

    private static void readRefuses() {
        Twins twins = new Twins(CHECKS, FetchingTest::unserved);
        twins.refuse("read(1, 0, 2), kept but not served", x -> x.read(1, 0, 2), -2);
        twins.refuse("read(1, 0, 1), not known", x -> x.read(1, 0, 1), -2);
        twins.refuse("read(1, 0, 3), not written", x -> x.read(1, 0, 3), -1);
        twins.refuse("read(1, 0, 0)", x -> x.read(1, 0, 0), -1);
        twins.refuse("read(1, 1, 1), not written", x -> x.read(1, 1, 1), -1);
        twins.refuse("read(1, 4, 1)", x -> x.read(1, 4, 1), -1);
        twins.refuse("read(1, -1, 1)", x -> x.read(1, -1, 1), -1);
        twins.refuse("read(2, 0, 1)", x -> x.read(2, 0, 1), -1);
        twins.refuse("read(-1, 0, 1)", x -> x.read(-1, 0, 1), -1);
    }

    /** A line of three; 1 and 2 know version 3 alone, the root knows 1 to 3. */
    private static ProxyVersions behind() {
        ProxyVersions x = new ProxyVersions();
        x.addProxy(0);
        x.addProxy(1);
        x.write(0);
        x.write(0);
        x.write(0);
        x.lose(1, 1, 2);
        x.deliver(1, 1, 1);
        x.deliver(2, 1, 1);
        return x;
    }

    private static void ask() {
        ProxyVersions x = behind();
        due("ask(1)", x.ask(1), 2);
        due("served(1, 0)", x.served(1, 0), 3);
        due("not up to the parent it came from", x.queued(1, 0, -1), 0);
        due("down to 2, in order", x.queued(2, 1, 0), 1);
        due("the second", x.queued(2, 1, 1), 2);
        due("the root's queue gets nothing", x.queued(1, 1, -1), 0);
        due("contents are kept", x.kept(1, 1), 1);
        due("ask(1) again", x.ask(1), -9);
        due("undo()", x.undo(), 5);
        due("served(1, 0) before", x.served(1, 0), 0);
    }

    private static void askGoesDown() {
        ProxyVersions x = behind();
        due("ask(2): first its parent asks", x.ask(2), 2);
        due("1 has learned too", x.served(1, 0), 3);
        due("2 serves all", x.served(2, 0), 3);
        due("what 1 learned waits for 2 as well", x.queued(2, 1, -1), 2);
        due("what 2 learned does not go back up", x.queued(2, 0, -1), 0);
    }

    private static void askOfTheMiddleOnly() {
        ProxyVersions x = behind();
        x.addProxy(1);
        due("3 knows nothing, but its parent learns", x.ask(3), 0);
        due("served(1, 0)", x.served(1, 0), 3);
        due("served(2, 0): not on the way", x.served(2, 0), 0);
        due("it is saved", x.undo(), 5);
        due("served(1, 0) before", x.served(1, 0), 0);
    }

    private static ProxyVersions refused() {
        ProxyVersions x = new ProxyVersions();
        x.addProxy(0);
        x.setHome(1, 1);
        x.write(0);
        x.write(0);
        x.write(0);
        x.write(0);
        x.lose(1, 1, 3);
        x.deliver(1, 1, 1);
        x.setLimits(0, 12);
        return x;
    }

    private static void askRefused() {
        ProxyVersions x = refused();
        due("1 and 2 leave a range, 3 closes it not", x.ask(1), 0);
        due("each is refused and counted", x.count(4), 3);
        due("it is saved", x.undo(), 5);
        due("refused before", x.count(4), 0);
    }

    private static void askRefusedAbove() {
        ProxyVersions x = refused();
        x.addProxy(1);
        due("nothing learned, but refused above", x.ask(2), 0);
        due("refused", x.count(4), 3);
    }

    /** By ascending origins, then by ascending versions; a gap that the parent has too stays. */
    private static void askInOrder() {
        ProxyVersions x = new ProxyVersions();
        x.addProxy(0);
        x.addProxy(1);
        x.setHome(0, 2);
        for (int version = 1; version <= 3; version++) {
            x.write(2);
            x.write(1);
        }
        // 1 knows 203 and 103 alone
        x.lose(1, 1, 4);
        x.deliver(1, 1, 2);
        due("ask(1)", x.ask(1), 4);
        int[] down = {203, 103, 101, 102, 201, 202};
        for (int index = 0; index < down.length; index++) {
            due("queued(2, 1, " + index + ")", x.queued(2, 1, index), down[index]);
            due("kept(1, " + index + ")", x.kept(1, index), down[index]);
        }
        x.write(0);
        x.write(0);
        x.lose(2, 0, 1);
        x.deliver(2, 0, 1);
        due("1 lacks what the root lacks", x.ask(1), -9);
        due("exception(1, 0, 0)", x.exception(1, 0, 0), 1);
    }

    private static void askRefuses() {
        Twins twins = new Twins(CHECKS, FetchingTest::behind);
        twins.refuse("ask(0)", x -> x.ask(0), -1);
        twins.refuse("ask(3)", x -> x.ask(3), -1);
        twins.refuse("ask(-1)", x -> x.ask(-1), -1);
        twins.refuse("ask(least)", x -> x.ask(Integer.MIN_VALUE), -1);
        Twins done = new Twins(CHECKS, FetchingTest::nobody);
        done.refuse("ask(2) with nothing to learn", x -> x.ask(2), -9);
    }
}

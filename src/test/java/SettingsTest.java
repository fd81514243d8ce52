/** Promises 1 to 6: a new object, addProxy, setHome, setLimits, proxy, count. */
public final class SettingsTest {
    private static final Checks CHECKS = new Checks();

    public static void main(String[] args) {
        constants();
        newObject();
        addProxy();
        setHome();
        setLimits();
        limitsLeaveWhatIsKnown();
        proxy();
        count();
        CHECKS.end();
    }

    private static void due(String call, int got, int due) {
        CHECKS.due(call, got, due);
    }

    private static void constants() {
        due("INVALID_ARGUMENT", ProxyVersions.INVALID_ARGUMENT, -1);
        due("ILLEGAL_STATE", ProxyVersions.ILLEGAL_STATE, -2);
        due("CAPACITY_EXCEEDED", ProxyVersions.CAPACITY_EXCEEDED, -3);
        due("NONE", ProxyVersions.NONE, -9);
    }

    private static void newObject() {
        ProxyVersions x = new ProxyVersions();
        int[] counts = {1, 8, 12, 0, 0, 0, 0, 0, 0};
        for (int what = 0; what < counts.length; what++) {
            due("new: count(" + what + ")", x.count(what), counts[what]);
        }
        int[] root = {-9, 0, 0, 0, 0, 0, 0, 0};
        for (int what = 0; what < root.length; what++) {
            due("new: proxy(0, " + what + ")", x.proxy(0, what), root[what]);
        }
        for (int origin = 0; origin < 4; origin++) {
            due("new: bound", x.bound(0, origin), 0);
            due("new: cause", x.cause(origin, 1, 0), -1);
            due("new: home", x.setHome(origin, 0), 0);
        }
        due("new: proxy(1, 0)", x.proxy(1, 0), -1);
        due("new: upToDate()", x.upToDate(), 1);
        due("new: clearText()", x.clearText(), 0);
        due("new: undo()", new ProxyVersions().undo(), -2);
    }

    private static ProxyVersions withEight() {
        ProxyVersions x = new ProxyVersions();
        for (int number = 1; number < 8; number++) {
            due("addProxy", x.addProxy(number / 2), number);
        }
        return x;
    }

    private static void addProxy() {
        ProxyVersions x = withEight();
        for (int number = 1; number < 8; number++) {
            due("its parent", x.proxy(number, 0), number / 2);
            due("its knowledge", x.proxy(number, 3), 0);
            due("its up queue", x.queued(number, 0, -1), 0);
            due("its down queue", x.queued(number, 1, -1), 0);
        }
        Twins eight = new Twins(CHECKS, SettingsTest::withEight);
        eight.refuse("addProxy(0) with 8", y -> y.addProxy(0), -3);
        eight.refuse("addProxy(7) with 8", y -> y.addProxy(7), -3);
        eight.refuse("addProxy(8) with 8: the argument comes first", y -> y.addProxy(8), -1);
        eight.refuse("addProxy(-1) with 8", y -> y.addProxy(-1), -1);
        Twins one = new Twins(CHECKS, ProxyVersions::new);
        one.refuse("addProxy(1) with 1", y -> y.addProxy(1), -1);
        one.refuse("addProxy(least)", y -> y.addProxy(Integer.MIN_VALUE), -1);
        one.refuse("addProxy(greatest)", y -> y.addProxy(Integer.MAX_VALUE), -1);

        ProxyVersions late = new ProxyVersions();
        late.write(0);
        due("a late addProxy(0)", late.addProxy(0), 1);
        due("it knows nothing", late.proxy(1, 3), 0);
        due("nothing waits for it", late.queued(1, 1, -1), 0);
        late.write(0);
        due("what comes later waits for it", late.queued(1, 1, 0), 2);
    }

    private static ProxyVersions withHome() {
        ProxyVersions x = new ProxyVersions();
        x.addProxy(0);
        x.setHome(2, 1);
        x.write(2);
        return x;
    }

    private static void setHome() {
        ProxyVersions x = new ProxyVersions();
        x.addProxy(0);
        due("setHome(3, 1)", x.setHome(3, 1), 0);
        due("setHome(3, 1) again", x.setHome(3, 1), 1);
        due("a call that changes nothing is saved too", x.count(8), 3);
        due("setHome(3, 0)", x.setHome(3, 0), 1);
        due("setHome(0, 1)", x.setHome(0, 1), 0);
        x.write(0);
        due("the write is known at its home", x.bound(1, 0), 1);
        due("and not at the root", x.bound(0, 0), 0);
        due("another origin is free", x.setHome(1, 1), 0);
        Twins twins = new Twins(CHECKS, SettingsTest::withHome);
        twins.refuse("setHome(2, 0) after a write", y -> y.setHome(2, 0), -2);
        twins.refuse("setHome(2, 1) after a write, the same", y -> y.setHome(2, 1), -2);
        twins.refuse("setHome(2, 2): the argument comes first", y -> y.setHome(2, 2), -1);
        twins.refuse("setHome(2, -1)", y -> y.setHome(2, -1), -1);
        twins.refuse("setHome(4, 0)", y -> y.setHome(4, 0), -1);
        twins.refuse("setHome(-1, 0)", y -> y.setHome(-1, 0), -1);
    }

    private static void setLimits() {
        ProxyVersions x = new ProxyVersions();
        due("setLimits(8, 12), as at first", x.setLimits(8, 12), 0);
        due("it is saved", x.count(8), 1);
        due("setLimits(0, 12)", x.setLimits(0, 12), 1);
        due("setLimits(0, 1)", x.setLimits(0, 1), 1);
        due("setLimits(0, 1) again", x.setLimits(0, 1), 0);
        due("count(1)", x.count(1), 0);
        due("count(2)", x.count(2), 1);
        Twins twins = new Twins(CHECKS, SettingsTest::withHome);
        twins.refuse("setLimits(-1, 5)", y -> y.setLimits(-1, 5), -1);
        twins.refuse("setLimits(9, 5)", y -> y.setLimits(9, 5), -1);
        twins.refuse("setLimits(5, 0)", y -> y.setLimits(5, 0), -1);
        twins.refuse("setLimits(5, 13)", y -> y.setLimits(5, 13), -1);
    }

    private static void limitsLeaveWhatIsKnown() {
        ProxyVersions x = new ProxyVersions();
        x.addProxy(0);
        for (int version = 1; version <= 6; version++) {
            x.write(0);
        }
        x.deliver(1, 1, 1);
        x.lose(1, 1, 1);
        x.deliver(1, 1, 2);
        due("kept before", x.proxy(1, 5), 3);
        due("ranges before", x.exception(1, 0, -1), 1);
        x.setLimits(0, 1);
        due("kept after", x.proxy(1, 5), 3);
        due("ranges after", x.exception(1, 0, -1), 1);
        due("no eviction", x.count(7), 0);
        // with 5 known too the vector would still have the range of 2: that is more than 0
        due("deliver(1, 1, 1)", x.deliver(1, 1, 1), 0);
        due("refused", x.count(4), 1);
        // 2 closes the range; one more content is kept and one evicted, so that more than M stay
        due("ask(1)", x.ask(1), 1);
        due("kept then", x.proxy(1, 5), 3);
        due("evicted", x.count(7), 1);
    }

    private static void proxy() {
        ProxyVersions x = new ProxyVersions();
        x.addProxy(0);
        x.addProxy(1);
        x.addProxy(1);
        x.setLimits(8, 2);
        x.setHome(1, 1);
        x.write(1);
        for (int version = 1; version <= 6; version++) {
            x.write(0);
        }
        // 1 knows 101, then 1, 3 and 6 of origin 0
        x.deliver(1, 1, 1);
        x.lose(1, 1, 1);
        x.deliver(1, 1, 1);
        x.lose(1, 1, 2);
        x.deliver(1, 1, 1);
        int[] middle = {0, 1, 2, 4, 2, 2, 4, 3};
        int[] leaf = {1, 2, 0, 0, 0, 0, 0, 0};
        int[] root = {-9, 0, 1, 6, 6, 6, 1, 0};
        for (int what = 0; what <= 7; what++) {
            due("proxy(1, " + what + ")", x.proxy(1, what), middle[what]);
            due("proxy(3, " + what + ")", x.proxy(3, what), leaf[what]);
            due("proxy(0, " + what + ")", x.proxy(0, what), root[what]);
        }
        for (int wrong : new int[] {-1, 4, 8, Integer.MIN_VALUE, Integer.MAX_VALUE}) {
            due("proxy(" + wrong + ", 0)", x.proxy(wrong, 0), -1);
        }
        for (int wrong : new int[] {-1, 8, Integer.MIN_VALUE, Integer.MAX_VALUE}) {
            due("proxy(0, " + wrong + "): before the NONE of the root", x.proxy(0, wrong), -1);
        }
    }

    private static void count() {
        ProxyVersions x = new ProxyVersions();
        x.addProxy(0);
        x.setLimits(1, 2);
        for (int version = 1; version <= 14; version++) {
            x.write(0);
        }
        x.lose(1, 1, 1);
        x.deliver(1, 1, 2);
        x.lose(1, 1, 1);
        x.deliver(1, 1, 1);
        x.ask(1);
        due("ask refused none", x.count(4), 1);
        int[] counts = {2, 1, 2, 14, 1, 2, 2, 1, 6};
        for (int what = 0; what < counts.length; what++) {
            due("count(" + what + ")", x.count(what), counts[what]);
        }
        for (int wrong : new int[] {-1, 9, Integer.MIN_VALUE, Integer.MAX_VALUE}) {
            due("count(" + wrong + ")", x.count(wrong), -1);
        }
    }
}

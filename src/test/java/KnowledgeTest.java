/** Promises 12 to 17, 20 and 21: bound, exception, served, status, missing, kept, covers, upToDate. */
public final class KnowledgeTest {
    private static final Checks CHECKS = new Checks();
    private static final int[] NO_PROXIES = {-1, 3, Integer.MIN_VALUE, Integer.MAX_VALUE};
    private static final int[] NO_ORIGINS = {-1, 4, Integer.MIN_VALUE, Integer.MAX_VALUE};

    public static void main(String[] args) {
        boundAndException();
        exceptionWrong();
        served();
        servedTogether();
        servedAfterAll();
        status();
        missing();
        missingFollowsCauses();
        kept();
        covers();
        upToDate();
        CHECKS.end();
    }

    private static void due(String call, int got, int due) {
        CHECKS.due(call, got, due);
    }

    /** Root 0 with the children 1 and 2; child 1 gets, of the versions of origin 0, those that the mask names. */
    private static ProxyVersions withVersions(String mask) {
        ProxyVersions x = new ProxyVersions();
        x.addProxy(0);
        x.addProxy(0);
        for (int i = 0; i < mask.length(); i++) {
            due("write(0)", x.write(0), i + 1);
            if (mask.charAt(i) == '1') {
                due("deliver(1, 1, 1)", x.deliver(1, 1, 1), 1);
            } else {
                due("lose(1, 1, 1)", x.lose(1, 1, 1), 1);
            }
        }
        return x;
    }

    private static void boundAndException() {
        ProxyVersions x = withVersions("0110010001" + "00");
        due("bound(1, 0)", x.bound(1, 0), 10);
        due("bound(0, 0)", x.bound(0, 0), 12);
        due("bound(2, 0)", x.bound(2, 0), 0);
        due("bound(1, 1)", x.bound(1, 1), 0);
        int[] gaps = {1, 4, 5, 7, 8, 9};
        for (int index = 0; index < gaps.length; index++) {
            due("exception(1, 0, " + index + ")", x.exception(1, 0, index), gaps[index]);
        }
        due("what is above the bound is no exception", x.exception(1, 0, 6), -9);
        due("exception(1, 0, greatest)", x.exception(1, 0, Integer.MAX_VALUE), -9);
        due("ranges", x.exception(1, 0, -1), 3);
        due("ranges at the root", x.exception(0, 0, -1), 0);
        due("exceptions at the root", x.exception(0, 0, 0), -9);
        due("exceptions of an unknown origin", x.exception(1, 3, 0), -9);

        String all = "111111111111111111111111";
        due("the last version", withVersions(all).bound(1, 0), 24);
        ProxyVersions last = withVersions(all.substring(1).replace('1', '0') + "1");
        due("bound by the last one alone", last.bound(1, 0), 24);
        due("one range", last.exception(1, 0, -1), 1);
        due("its last exception", last.exception(1, 0, 22), 23);
        due("no more", last.exception(1, 0, 23), -9);
    }

    private static void exceptionWrong() {
        ProxyVersions x = withVersions("01");
        for (int wrong : NO_PROXIES) {
            due("bound(" + wrong + ", 0)", x.bound(wrong, 0), -1);
            due("exception(" + wrong + ", 0, 9)", x.exception(wrong, 0, 9), -1);
            due("served(" + wrong + ", 0)", x.served(wrong, 0), -1);
            due("status(" + wrong + ", 0, 1)", x.status(wrong, 0, 1), -1);
            due("missing(" + wrong + ", 0, 1)", x.missing(wrong, 0, 1), -1);
            due("kept(" + wrong + ", 9)", x.kept(wrong, 9), -1);
            due("covers(" + wrong + ", 0)", x.covers(wrong, 0), -1);
            due("covers(0, " + wrong + ")", x.covers(0, wrong), -1);
        }
        for (int wrong : NO_ORIGINS) {
            due("bound(1, " + wrong + ")", x.bound(1, wrong), -1);
            due("exception(1, " + wrong + ", 9)", x.exception(1, wrong, 9), -1);
            due("served(1, " + wrong + ")", x.served(1, wrong), -1);
            due("status(1, " + wrong + ", 1)", x.status(1, wrong, 1), -1);
            due("missing(1, " + wrong + ", 1)", x.missing(1, wrong, 1), -1);
        }
        for (int wrong : new int[] {0, 3, -1, 24, Integer.MIN_VALUE, Integer.MAX_VALUE}) {
            due("status(1, 0, " + wrong + ")", x.status(1, 0, wrong), -1);
            due("missing(1, 0, " + wrong + ")", x.missing(1, 0, wrong), -1);
        }
        due("exception(1, 0, -2)", x.exception(1, 0, -2), -1);
        due("exception(1, 0, least)", x.exception(1, 0, Integer.MIN_VALUE), -1);
        due("kept(1, -1)", x.kept(1, -1), -1);
        due("kept(1, least)", x.kept(1, Integer.MIN_VALUE), -1);
    }

    private static void served() {
        ProxyVersions x = withVersions("1101");
        due("served(1, 0)", x.served(1, 0), 2);
        due("served(0, 0)", x.served(0, 0), 4);
        due("served(2, 0)", x.served(2, 0), 0);
        due("served(1, 3)", x.served(1, 3), 0);
        due("proxy(1, 4)", x.proxy(1, 4), 2);
        due("ask(1)", x.ask(1), 1);
        due("served(1, 0) without a gap", x.served(1, 0), 4);
    }

    /** Versions of one origin that are known without a gap, but lack causes of others, and these of others again. */
    private static void servedTogether() {
        ProxyVersions x = new ProxyVersions();
        x.addProxy(0);
        x.write(3);
        x.write(2);
        x.write(1);
        x.write(0);
        x.write(0);
        // 1 gets all but 301
        x.lose(1, 1, 1);
        due("deliver(1, 1, 9)", x.deliver(1, 1, 9), 4);
        for (int origin = 0; origin < 4; origin++) {
            due("served(1, " + origin + ")", x.served(1, origin), 0);
        }
        due("knows", x.proxy(1, 3), 4);
        due("no exception, so that nothing is asked for", x.ask(1), -9);
        x.write(3);
        x.deliver(1, 1, 1);
        due("ask(1)", x.ask(1), 1);
        int[] served = {2, 1, 1, 2};
        for (int origin = 0; origin < 4; origin++) {
            due("served(1, " + origin + ") then", x.served(1, origin), served[origin]);
        }
    }

    /** A version in the middle lacks a cause: only those before it are served. */
    private static void servedAfterAll() {
        ProxyVersions x = new ProxyVersions();
        x.addProxy(0);
        x.write(0);
        x.write(1);
        x.write(0);
        x.deliver(1, 1, 1);
        x.lose(1, 1, 1);
        x.deliver(1, 1, 1);
        due("bound(1, 0)", x.bound(1, 0), 2);
        due("served(1, 0)", x.served(1, 0), 1);
        due("status(1, 0, 2)", x.status(1, 0, 2), 1);
        due("missing(1, 0, 2)", x.missing(1, 0, 2), 1);
    }

    private static void status() {
        ProxyVersions x = withVersions("1101");
        due("unknown", x.status(1, 0, 3), 0);
        due("known, not served, kept", x.status(1, 0, 4), 1);
        due("served and kept", x.status(1, 0, 2), 3);
        x.setLimits(8, 1);
        x.write(0);
        x.deliver(1, 1, 1);
        due("served, not kept", x.status(1, 0, 1), 2);
        due("the other one stays", x.status(1, 0, 2), 3);
        due("at a proxy that knows nothing", x.status(2, 0, 1), 0);
    }

    private static void missing() {
        ProxyVersions x = withVersions("110100");
        due("served", x.missing(1, 0, 2), 0);
        due("unknown itself", x.missing(1, 0, 3), 1);
        due("known, with a gap before", x.missing(1, 0, 4), 1);
        due("unknown, with gaps before", x.missing(1, 0, 6), 3);
        due("nothing known", x.missing(2, 0, 6), 6);
        due("all known", x.missing(0, 0, 6), 0);
    }

    /** 1 writes 101 after 201, which the root wrote after 301; the root then writes 1 after all of them. */
    private static void missingFollowsCauses() {
        ProxyVersions x = new ProxyVersions();
        x.addProxy(0);
        x.addProxy(0);
        x.setHome(1, 1);
        x.write(3);
        x.write(2);
        x.deliver(1, 1, 9);
        x.write(1);
        x.write(3);
        x.deliver(1, 0, 9);
        x.write(0);
        due("of 1 at 2", x.missing(2, 0, 1), 5);
        due("of 101 at 2", x.missing(2, 1, 1), 3);
        due("of 201 at 2", x.missing(2, 2, 1), 2);
        due("of 1 at 1", x.missing(1, 0, 1), 2);
        // 2 gets 201 and 101, but not 301: the queue is 301 201 302 101 1
        x.lose(2, 1, 1);
        x.deliver(2, 1, 1);
        x.lose(2, 1, 1);
        x.deliver(2, 1, 1);
        due("of 101 at 2, whose own causes are known", x.missing(2, 1, 1), 1);
        due("of 1 at 2 then", x.missing(2, 0, 1), 3);
        due("of 302 at 2", x.missing(2, 3, 2), 2);

        ProxyVersions chain = new ProxyVersions();
        chain.addProxy(0);
        chain.addProxy(0);
        chain.setHome(0, 1);
        chain.setHome(1, 2);
        // 102 has the cause 1, which is a cause of nothing else; then 2 has 102 as cause: causes of causes
        chain.write(1);
        chain.write(0);
        chain.deliver(1, 0, 1);
        chain.deliver(2, 1, 1);
        chain.write(1);
        due("cause(1, 2, 0)", chain.cause(1, 2, 0), 1);
        chain.deliver(2, 0, 9);
        chain.deliver(1, 1, 9);
        chain.write(0);
        due("cause(0, 2, 1)", chain.cause(0, 2, 1), 2);
        chain.addProxy(0);
        due("all of them", chain.missing(3, 0, 2), 4);
        due("of 102: 101, 1 and itself", chain.missing(3, 1, 2), 3);
    }

    private static void kept() {
        ProxyVersions x = new ProxyVersions();
        x.addProxy(0);
        x.write(2);
        x.write(0);
        x.write(2);
        x.deliver(1, 1, 2);
        int[] root = {201, 1, 202, -9};
        int[] child = {201, 1, -9, -9};
        for (int index = 0; index < 4; index++) {
            due("kept(0, " + index + ")", x.kept(0, index), root[index]);
            due("kept(1, " + index + ")", x.kept(1, index), child[index]);
        }
        due("kept(1, greatest)", x.kept(1, Integer.MAX_VALUE), -9);
        ProxyVersions full = new ProxyVersions();
        for (int i = 0; i < 96; i++) {
            full.write(i % 4);
        }
        due("the root keeps all", full.proxy(0, 5), 96);
        due("the last one", full.kept(0, 95), 324);
        due("no more", full.kept(0, 96), -9);
    }

    private static void covers() {
        ProxyVersions x = withVersions("0110");
        due("covers(0, 1)", x.covers(0, 1), 1);
        due("covers(1, 0)", x.covers(1, 0), 0);
        due("covers(1, 2)", x.covers(1, 2), 1);
        due("covers(2, 1)", x.covers(2, 1), 0);
        due("covers(2, 2)", x.covers(2, 2), 1);
        x.setHome(3, 2);
        x.write(3);
        due("each knows what the other doesn't", x.covers(0, 2), 0);
        due("and the other way", x.covers(2, 0), 0);
        due("the last origin counts", x.covers(1, 2), 0);
        due("covers(3, 3)", x.covers(3, 3), -1);
    }

    private static void upToDate() {
        ProxyVersions x = new ProxyVersions();
        due("alone", x.upToDate(), 1);
        x.addProxy(0);
        x.addProxy(0);
        due("nothing written", x.upToDate(), 3);
        x.setHome(1, 1);
        x.write(1);
        due("the home alone", x.upToDate(), 1);
        x.write(0);
        due("nobody", x.upToDate(), 0);
        x.deliver(1, 0, 1);
        due("the root", x.upToDate(), 1);
        x.deliver(1, 1, 1);
        due("and 1", x.upToDate(), 2);
        x.deliver(2, 1, 2);
        due("all", x.upToDate(), 3);
        x.setLimits(8, 1);
        x.write(0);
        x.deliver(1, 1, 1);
        due("contents don't matter", x.upToDate(), 2);
        ProxyVersions gap = withVersions("01");
        due("who knows but doesn't serve is not up to date", gap.upToDate(), 1);
    }
}

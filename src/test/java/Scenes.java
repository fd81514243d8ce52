import java.util.function.Supplier;
import java.util.function.ToIntBiFunction;

/** Objects to start from, and runs of calls that many tests need. */
final class Scenes {
    private Scenes() {
    }

    /** The root with children 1, 2, ... */
    static ProxyVersions star(int children) {
        ProxyVersions x = new ProxyVersions();
        for (int child = 1; child <= children; child++) {
            x.addProxy(0);
        }
        return x;
    }

    /** Proxies one below the other: 0, 1, 2, ... */
    static ProxyVersions line(int proxies) {
        ProxyVersions x = new ProxyVersions();
        for (int number = 1; number < proxies; number++) {
            x.addProxy(number - 1);
        }
        return x;
    }

    /** Root 0 with child 1, which has the children 2 and 3. */
    static ProxyVersions fork() {
        ProxyVersions x = line(3);
        x.addProxy(1);
        return x;
    }

    static ProxyVersions write(ProxyVersions x, int origin, int times) {
        for (int time = 0; time < times; time++) {
            x.write(origin);
        }
        return x;
    }

    /** The root writes an update for each sign, of which child 1 gets those with '1' and loses those with '0'. */
    static ProxyVersions give(ProxyVersions x, int origin, String signs) {
        for (int index = 0; index < signs.length(); index++) {
            x.write(origin);
            if (signs.charAt(index) == '1') {
                x.deliver(1, 1, 1);
            } else {
                x.lose(1, 1, 1);
            }
        }
        return x;
    }

    static ProxyVersions type(ProxyVersions x, String text) {
        for (int index = 0; index < text.length(); index++) {
            x.appendCharacter(text.charAt(index));
        }
        return x;
    }

    static int run(ProxyVersions x, String text) {
        return type(x, text).runScript();
    }

    /** An argument, for which '#' stands in the call, is refused with each wrong number, which changes nothing. */
    static void wrong(Checks checks, Supplier<ProxyVersions> scene, String call,
            ToIntBiFunction<ProxyVersions, Integer> made, int... numbers) {
        Twins twins = new Twins(checks, scene);
        for (int number : numbers) {
            twins.refuse(call.replace("#", "" + number), x -> made.applyAsInt(x, number), -1);
        }
        for (int number : new int[] {Integer.MIN_VALUE, Integer.MAX_VALUE}) {
            twins.refuse(call.replace("#", "" + number), x -> made.applyAsInt(x, number), -1);
        }
    }

    /** Each number of a range is taken. */
    static void right(Checks checks, Supplier<ProxyVersions> scene, String call,
            ToIntBiFunction<ProxyVersions, Integer> made, int least, int greatest) {
        for (int number = least; number <= greatest; number++) {
            int answer = made.applyAsInt(scene.get(), number);
            checks.due(call.replace("#", "" + number) + " is refused", answer == -1 ? 1 : 0, 0);
        }
    }
}

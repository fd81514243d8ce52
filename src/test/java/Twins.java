import java.util.function.Supplier;
import java.util.function.ToIntFunction;

/**
 * Tells whether a call changes something: two objects are made alike, one gets the call, then all that can be asked
 * of them is compared. Keep the scenes small, as what can be asked counts against the 512 calls.
 */
final class Twins {
    private final Checks checks;
    private final Supplier<ProxyVersions> scene;

    Twins(Checks checks, Supplier<ProxyVersions> scene) {
        this.checks = checks;
        this.scene = scene;
    }

    /** The call answers as due and changes nothing, the saved states and the text included. */
    void refuse(String call, ToIntFunction<ProxyVersions> made, int due) {
        ProxyVersions called = scene.get();
        ProxyVersions untouched = scene.get();
        checks.due(call, made.applyAsInt(called), due);
        checks.due("what can be asked after " + call, lookAt(called), lookAt(untouched));
        checks.due("clearText() after " + call, called.clearText(), untouched.clearText());
        checks.due("undo() after " + call, called.undo(), untouched.undo());
        checks.due("what can be asked after " + call + "; undo()", lookAt(called), lookAt(untouched));
    }

    /** All that the questions answer, in words. */
    static String lookAt(ProxyVersions x) {
        StringBuilder seen = new StringBuilder("counts");
        for (int what = 0; what <= 8; what++) {
            seen.append(' ').append(x.count(what));
        }
        seen.append(" up to date ").append(x.upToDate());
        for (int proxy = 0; proxy < x.count(0); proxy++) {
            lookAtProxy(x, proxy, seen);
        }
        return seen.toString();
    }

    private static void lookAtProxy(ProxyVersions x, int proxy, StringBuilder seen) {
        seen.append("\n  proxy ").append(proxy).append(':');
        for (int what = 0; what <= 7; what++) {
            seen.append(' ').append(x.proxy(proxy, what));
        }
        for (int origin = 0; origin < 4; origin++) {
            seen.append(" origin ").append(origin).append(':').append(x.bound(proxy, origin));
            seen.append(' ').append(x.served(proxy, origin));
            for (int index = 0, gap = 0; gap >= 0; index++) {
                gap = x.exception(proxy, origin, index);
                seen.append(gap >= 0 ? " without " + gap : "");
            }
        }
        for (int index = 0; index < x.proxy(proxy, 5); index++) {
            seen.append(" keeps ").append(x.kept(proxy, index));
        }
        for (int direction = 0; direction <= 1 && proxy > 0; direction++) {
            seen.append(direction == 0 ? " up:" : " down:");
            for (int index = 0; index < x.queued(proxy, direction, -1); index++) {
                seen.append(' ').append(x.queued(proxy, direction, index));
            }
        }
    }
}

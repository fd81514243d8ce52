import java.util.ArrayList;
import java.util.List;

/** Promise 25: undo. */
public final class UndoTest {
    private static final Checks CHECKS = new Checks();

    public static void main(String[] args) {
        eachCallIsSaved();
        sixAtMost();
        questionsAreNotSaved();
        aNewWayAfterUndo();
        countsAndHomesComeBack();
        textStays();
        noneAfterSeven();
        CHECKS.end();
    }

    private static void due(String call, int got, int due) {
        CHECKS.due(call, got, due);
    }

    /** Does call number i of a run that changes all that there is to change. */
    private static int change(ProxyVersions x, int i) {
        switch (i) {
            case 0: return x.addProxy(0);
            case 1: return x.addProxy(1);
            case 2: return x.setHome(1, 1);
            case 3: return x.setLimits(1, 2);
            case 4: return x.write(1);
            case 5: return x.write(0);
            case 6: return x.write(0);
            case 7: return x.write(0);
            case 8: return x.lose(1, 1, 1);
            case 9: return x.deliver(1, 1, 1);
            case 10: return x.deliver(2, 1, 2);
            case 11: return x.deliver(1, 0, 1);
            case 12: return x.ask(2);
            case 13: return x.deliver(1, 1, 1);
            case 14: return x.read(1, 1, 1);
            case 15: return x.write(2);
            case 16: return x.deliver(1, 1, 9);
            default: return x.runScript();
        }
    }

    private static final int CHANGES = 18;

    private static ProxyVersions after(int changes) {
        ProxyVersions x = new ProxyVersions();
        for (int i = 0; i < changes; i++) {
            change(x, i);
        }
        return x;
    }

    /** After each number of calls: the last call undone is as if it had not been, but for older saved states. */
    private static void eachCallIsSaved() {
        for (int changes = 0; changes < CHANGES; changes++) {
            ProxyVersions x = after(changes);
            ProxyVersions longer = after(changes);
            due("call " + changes + " succeeds", change(longer, changes) >= 0 ? 1 : 0, 1);
            due("saved states", longer.count(8), Math.min(changes + 1, 6));
            due("undo()", longer.undo(), Math.min(changes, 5));
            if (changes < 6) {
                CHECKS.due("state " + changes, Twins.lookAt(longer), Twins.lookAt(x));
            } else {
                x.undo();
                change(x, changes - 1);
                CHECKS.due("state " + changes, withoutSaved(longer), withoutSaved(x));
            }
        }
    }

    private static String withoutSaved(ProxyVersions x) {
        return Twins.lookAt(x).replaceFirst("\\d+ up to date", "up to date");
    }

    private static void sixAtMost() {
        List<String> seen = new ArrayList<>();
        for (int changes = 0; changes <= CHANGES; changes++) {
            seen.add(withoutSaved(after(changes)));
        }
        ProxyVersions x = after(CHANGES);
        for (int saved = 5; saved >= 0; saved--) {
            due("undo()", x.undo(), saved);
            due("count(8)", x.count(8), saved);
            if (saved % 3 == 0) {
                CHECKS.due("state " + (CHANGES - 6 + saved), withoutSaved(x), seen.get(CHANGES - 6 + saved));
            }
        }
        due("undo() of none", x.undo(), -2);
        CHECKS.due("nothing changes", withoutSaved(x), seen.get(CHANGES - 6));
    }

    private static void questionsAreNotSaved() {
        ProxyVersions x = after(4);
        x.appendCharacter('w');
        x.clearText();
        x.write(7);
        x.deliver(1, 1, 1);
        x.ask(1);
        x.upToDate();
        due("count(8)", x.count(8), 4);
    }

    private static void aNewWayAfterUndo() {
        ProxyVersions x = after(8);
        due("undo()", x.undo(), 5);
        due("undo()", x.undo(), 4);
        due("write(0), the same version again", x.write(0), 2);
        due("addProxy(0)", x.addProxy(0), 3);
        due("undo()", x.undo(), 5);
        due("there is no 3", x.proxy(3, 0), -1);
        due("undo()", x.undo(), 4);
        due("version 2 is gone", x.cause(0, 2, 0), -1);
        due("setHome is possible again", after(5).setHome(1, 0), -2);
        ProxyVersions unwritten = after(5);
        unwritten.undo();
        due("where the write is undone", unwritten.setHome(1, 0), 1);
        ProxyVersions fresh = new ProxyVersions();
        fresh.addProxy(0);
        fresh.write(0);
        fresh.undo();
        fresh.undo();
        fresh.addProxy(0);
        due("an undone queue is empty", fresh.queued(1, 1, -1), 0);
    }

    private static void countsAndHomesComeBack() {
        ProxyVersions x = new ProxyVersions();
        x.addProxy(0);
        for (int version = 1; version <= 13; version++) {
            x.write(0);
        }
        due("overflows", x.count(5), 1);
        x.undo();
        due("overflows before", x.count(5), 0);
        x.setHome(3, 1);
        x.undo();
        due("the home before", x.setHome(3, 1), 0);
        x.setLimits(3, 4);
        x.undo();
        due("the limit before", x.count(1), 8);
        due("M before", x.count(2), 12);
    }

    private static void textStays() {
        ProxyVersions x = after(3);
        x.appendCharacter('w');
        x.undo();
        due("appendCharacter after undo()", x.appendCharacter('0'), 2);
        due("runScript()", x.runScript(), 1);
        due("undo()", x.undo(), 2);
        due("the text stays empty", x.clearText(), 0);
    }

    /** A call that answers NONE, with six saved states, discards none of them. */
    private static void noneAfterSeven() {
        ProxyVersions x = after(9);
        due("six are saved", x.count(8), 6);
        due("ask(1)", x.ask(1), -9);
        due("ask(0)", x.ask(0), -1);
        due("read(2, 1, 1)", x.read(2, 1, 1), -2);
        for (int saved = 5; saved >= 0; saved--) {
            due("undo()", x.undo(), saved);
        }
        CHECKS.due("the oldest state", withoutSaved(x), withoutSaved(after(3)));
    }
}

/** Counts and prints the answers that are not as due. */
final class Checks {
    private final boolean silent;
    private int made;
    private int wrong;

    Checks() {
        this(false);
    }

    Checks(boolean silent) {
        this.silent = silent;
    }

    void due(String call, long got, long due) {
        made++;
        if (got != due) {
            wrong++;
            say(call + " answered " + got + ", due is " + due);
        }
    }

    void due(String call, String got, String due) {
        made++;
        if (!got.equals(due)) {
            wrong++;
            say(call + " answered\n  " + got + "\ndue is\n  " + due);
        }
    }

    private void say(String line) {
        if (!silent && wrong <= 50) {
            System.out.println(line);
        }
    }

    int made() {
        return made;
    }

    int wrong() {
        return wrong;
    }

    /** The last call of a test: prints the sum and ends the program with 1 if an answer was wrong. */
    void end() {
        System.out.println(made + " checks, " + wrong + " wrong");
        if (wrong > 0 || made == 0) {
            System.exit(1);
        }
    }
}

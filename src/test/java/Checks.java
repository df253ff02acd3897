/** Counts the answers that are not the due ones, and prints them. */
final class Checks {
    /** A class that is broken in one place may answer wrong everywhere: the first lines tell enough. */
    private static final int MOST_LINES = 200;

    private final String title;
    private String part = "";
    private int wrong = 0;
    private int made = 0;

    Checks(String title) {
        this.title = title;
    }

    void part(String name) {
        part = name;
    }

    void due(String call, long want, long got) {
        made++;
        if (got != want) {
            tell(call + " answered " + got + ", due is " + want);
        }
    }

    void holds(String what, boolean so) {
        made++;
        if (!so) {
            tell("not so: " + what);
        }
    }

    private void tell(String fault) {
        wrong++;
        if (wrong <= MOST_LINES) {
            System.out.println(part + ": " + fault);
        } else if (wrong == MOST_LINES + 1) {
            System.out.println("and more");
        }
    }

    void close() {
        System.out.println(title + ": " + made + " checks, " + wrong + " wrong");
        if (wrong != 0) {
            System.exit(1);
        }
    }
}

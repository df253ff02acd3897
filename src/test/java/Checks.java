/** Counts the answers that are not the due ones, and prints each. */
final class Checks {
    private final String title;
    private String part = "";
    private int wrong = 0;
    private int made = 0;

    Checks(String title) {
        this.title = title;
    }

    void part(String name) {
        part = name;
    }

    void due(String call, long want, long got) {
        made++;
        if (got != want) {
            wrong++;
            System.out.println(part + ": " + call + " answered " + got + ", due is " + want);
        }
    }

    void holds(String what, boolean so) {
        made++;
        if (!so) {
            wrong++;
            System.out.println(part + ": not so: " + what);
        }
    }

    void close() {
        System.out.println(title + ": " + made + " checks, " + wrong + " wrong");
        if (wrong != 0) {
            System.exit(1);
        }
    }
}

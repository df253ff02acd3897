/** At least one test for each promise of the document: ordinary inputs, edges, wrong inputs. */
public final class PromisesTest {
    private static final int INVALID = -1;
    private static final int IMPOSSIBLE = -2;
    private static final int LIMIT = -3;
    private static final int MISSING = -4;

    private static final Checks CHECKS = new Checks("PromisesTest");

    private static void due(String call, long want, long got) {
        CHECKS.due(call, want, got);
    }

    private static void write(ShapeSessions x, String text) {
        x.clearText();
        for (int i = 0; i < text.length(); i++) {
            due("type " + text.charAt(i), i + 1, x.type(text.charAt(i)));
        }
    }

    public static void main(String[] args) {
        constants();
        promise1();
        promise2();
        promise2AtOnceAndLimit();
        promise3();
        promise3Asks();
        promise3Drops();
        promise3Refusals();
        promise4();
        promise4Drops();
        promise5();
        promise5Order();
        promise6();
        promise6Room();
        promise7();
        promise8();
        promise9();
        promise10();
        promise11();
        promise12();
        promise13();
        promise14();
        promise15();
        promise15Latest();
        promise16And17();
        promise18();
        promise19And20();
        promise21();
        promise21Forms();
        promise22();
        CHECKS.close();
    }

    private static void constants() {
        CHECKS.part("constants");
        due("INVALID_ARGUMENT", INVALID, ShapeSessions.INVALID_ARGUMENT);
        due("NOT_POSSIBLE", IMPOSSIBLE, ShapeSessions.NOT_POSSIBLE);
        due("LIMIT_REACHED", LIMIT, ShapeSessions.LIMIT_REACHED);
        due("NOT_FOUND", MISSING, ShapeSessions.NOT_FOUND);
    }

    private static void promise1() {
        CHECKS.part("promise 1");
        ShapeSessions x = new ShapeSessions();
        for (int table = 0; table < 6; table++) {
            due("version", 0, x.tableOf(table, 0));
            due("shape", 1, x.tableOf(table, 1));
            due("least at work", MISSING, x.tableOf(table, 2));
            due("hands", 0, x.tableOf(table, 3));
            due("can change", 1, x.tableOf(table, 4));
        }
        for (int session = 0; session < 4; session++) {
            for (int what = 0; what < 10; what++) {
                due("sessionOf " + what, 0, x.sessionOf(session, what));
            }
            due("entry", MISSING, x.entry(session, 0, 0));
        }
        int[] counts = {0, 0, 0, 0, 0, 0, 0, 63, 0};
        for (int what = 0; what < counts.length; what++) {
            due("count " + what, counts[what], x.count(what));
        }
        due("setting 0", 3, x.count(20));
        due("setting 1", 3, x.count(21));
        ShapeSessions other = new ShapeSessions();
        other.alter(0, 1);
        due("an object by itself", 0, x.tableOf(0, 0));
    }

    private static void promise2() {
        CHECKS.part("promise 2");
        ShapeSessions x = new ShapeSessions();
        due("the last column", IMPOSSIBLE, x.alter(2, 0));
        due("column 7 comes", 1, x.alter(2, 7));
        due("shape", 129, x.tableOf(2, 1));
        due("column 0 goes", 2, x.alter(2, 0));
        due("shape", 128, x.tableOf(2, 1));
        due("the last column", IMPOSSIBLE, x.alter(2, 7));
        due("another table", 1, x.tableOf(3, 1));
        due("version", 2, x.tableOf(2, 0));
        due("notices", 2, x.count(1));
        due("table -1", INVALID, x.alter(-1, 0));
        due("table 6", INVALID, x.alter(6, 0));
        due("column -1", INVALID, x.alter(0, -1));
        due("column 8", INVALID, x.alter(0, 8));
        due("table 5", 1, x.alter(5, 3));
        due("history", 3, x.count(4));
        due("start by version 1", 0, x.start(3, 32));
        due("by which a statement works that is current", 2, x.alter(5, 4));
        due("cannot change", IMPOSSIBLE, x.alter(5, 1));
        due("a wrong column first", INVALID, x.alter(5, 8));
        due("end", 0, x.end(0));
        due("can change", 3, x.alter(5, 1));
    }

    private static void promise2AtOnceAndLimit() {
        CHECKS.part("promise 2, at once, limit");
        ShapeSessions x = new ShapeSessions();
        x.set(0, 0);
        x.start(0, 1);
        x.end(0);
        due("alter", 1, x.alter(0, 1));
        due("on their way", 0, x.sessionOf(0, 1));
        due("known", 1, x.sessionOf(3, 0));
        due("late", 0, x.sessionOf(3, 9));
        due("the entry has gone", 0, x.sessionOf(0, 2));
        due("this is no drop", 0, x.sessionOf(0, 7));
        for (int i = 2; i <= 100; i++) {
            due("alter", i, x.alter(0, 1));
        }
        due("100 notices", 100, x.count(1));
        due("limit", LIMIT, x.alter(1, 1));
        due("not possible rather than the limit", IMPOSSIBLE, x.alter(1, 0));
        due("invalid rather than the limit", INVALID, x.alter(6, 1));
        due("a table at the limit can change", 1, x.tableOf(1, 4));
        due("all tables can change", 63, x.count(7));
        x.start(2, 48);
        due("in the way at the limit", MISSING, x.inTheWay(1));
        due("undo", 3, x.undo());
        due("undo", 2, x.undo());
        due("below the limit", 1, x.alter(1, 1));
    }

    private static void promise3() {
        CHECKS.part("promise 3");
        ShapeSessions x = new ShapeSessions();
        due("session -1", INVALID, x.start(-1, 1));
        due("session 4", INVALID, x.start(4, 1));
        due("no tables", INVALID, x.start(0, 0));
        due("tables 64", INVALID, x.start(0, 64));
        due("tables -1", INVALID, x.start(0, -1));
        due("first", 0, x.start(0, 5));
        due("loads", 2, x.sessionOf(0, 6));
        due("second", 1, x.start(3, 5));
        due("own hand", 2, x.sessionOf(3, 6));
        due("third", 2, x.start(0, 4));
        due("hit", 1, x.sessionOf(0, 5));
        due("loads", 2, x.sessionOf(0, 6));
        due("workers", 2, x.entry(0, 1, 3));
        due("last use", 2, x.entry(0, 1, 4));
        due("the other's last use", 0, x.entry(0, 0, 4));
        due("drops", 0, x.sessionOf(0, 7));
        due("asks", 0, x.sessionOf(0, 8));
        due("room 8", 3, x.set(1, 8));
        due("all six", 3, x.start(0, 63));
        due("hits", 3, x.sessionOf(0, 5));
        due("loads", 6, x.sessionOf(0, 6));
    }

    private static void promise3Asks() {
        CHECKS.part("promise 3, asks");
        ShapeSessions x = new ShapeSessions();
        x.start(0, 1);
        x.end(0);
        x.alter(0, 1);
        x.alter(1, 1);
        due("not known", 0, x.sessionOf(0, 0));
        due("not stale", 0, x.entry(0, 0, 5));
        due("start", 1, x.start(0, 2));
        due("known", 2, x.sessionOf(0, 0));
        due("an ask that helped", 1, x.sessionOf(0, 8));
        due("the stale one has gone", 1, x.sessionOf(0, 2));
        due("table as it is now", 1, x.entry(0, 0, 1));
        due("shape as it is now", 3, x.entry(0, 0, 2));
        due("no drop", 0, x.sessionOf(0, 7));
        due("start", 2, x.start(0, 2));
        due("no help", 1, x.sessionOf(0, 8));
        due("another session", 0, x.sessionOf(1, 0));
        x.alter(2, 1);
        x.set(1, 1);
        due("refused", LIMIT, x.start(0, 4));
        due("what it learned is forgotten", 2, x.sessionOf(0, 0));
        due("and the ask", 1, x.sessionOf(0, 8));
    }

    private static void promise3Drops() {
        CHECKS.part("promise 3, drops");
        ShapeSessions x = new ShapeSessions();
        x.start(0, 6);
        x.end(0);
        x.start(0, 1);
        x.end(1);
        due("of several the lowest table", 2, x.start(0, 8));
        due("first left", 0, x.entry(0, 0, 0));
        due("second left", 2, x.entry(0, 1, 0));
        due("third", 3, x.entry(0, 2, 0));
        due("drops", 1, x.sessionOf(0, 7));
        due("a hit makes it younger", 3, x.start(0, 4));
        due("end", 0, x.end(3));
        due("start", 4, x.start(0, 16));
        due("table 0 has gone", 2, x.entry(0, 0, 0));
        due("drops", 2, x.sessionOf(0, 7));
        ShapeSessions y = new ShapeSessions();
        y.set(1, 2);
        y.start(0, 3);
        y.end(0);
        due("0 is used, 2 comes and 1 goes ahead of it", 1, y.start(0, 5));
        due("hits", 1, y.sessionOf(0, 5));
        due("end", 0, y.end(1));
        due("1 comes and 0 goes, 2 is used", 2, y.start(0, 6));
        due("drops", 2, y.sessionOf(0, 7));
        due("hits", 2, y.sessionOf(0, 5));
        due("refused", LIMIT, y.start(0, 1));
        due("end", 0, y.end(2));
        due("three tables have no room", LIMIT, y.start(0, 7));
        due("nothing changed", 2, y.sessionOf(0, 7));
    }

    private static void promise3Refusals() {
        CHECKS.part("promise 3, refusals");
        ShapeSessions x = new ShapeSessions();
        for (int i = 0; i < 4; i++) {
            due("start", i, x.start(0, 1));
        }
        due("a fifth", LIMIT, x.start(0, 1));
        due("an argument rather", INVALID, x.start(0, 0));
        due("another session", 4, x.start(1, 1));
        due("end", 0, x.end(2));
        due("after an end", 5, x.start(0, 1));
        due("history", 4, x.count(4));
        ShapeSessions y = new ShapeSessions();
        y.set(1, 2);
        y.start(0, 3);
        due("full, and all at work", LIMIT, y.start(0, 4));
        due("full, but used alone", 1, y.start(0, 3));
        y.set(1, 1);
        due("more than full, but used alone", 2, y.start(0, 2));
        due("more than full", LIMIT, y.start(0, 4));
    }

    private static void promise4() {
        CHECKS.part("promise 4");
        ShapeSessions x = new ShapeSessions();
        due("none yet", IMPOSSIBLE, x.end(0));
        due("-1", INVALID, x.end(-1));
        due("the least", INVALID, x.end(Integer.MIN_VALUE));
        x.start(2, 3);
        x.start(2, 1);
        due("none", IMPOSSIBLE, x.end(2));
        due("end", 0, x.end(0));
        due("again", IMPOSSIBLE, x.end(0));
        due("workers of 0", 1, x.entry(2, 0, 3));
        due("workers of 1", 0, x.entry(2, 1, 3));
        due("not ended", 1, x.sessionOf(2, 4));
        x.set(0, 0);
        x.alter(0, 1);
        due("stale", 1, x.sessionOf(2, 3));
        due("the stale one goes", 1, x.end(1));
        due("no drop", 0, x.sessionOf(2, 7));
        due("left", 1, x.sessionOf(2, 2));
    }

    private static void promise4Drops() {
        CHECKS.part("promise 4, drops");
        ShapeSessions x = new ShapeSessions();
        x.start(0, 7);
        x.start(0, 4);
        x.set(1, 1);
        due("all at work stay", 3, x.sessionOf(0, 2));
        due("two go", 2, x.end(0));
        due("drops", 2, x.sessionOf(0, 7));
        due("left", 2, x.entry(0, 0, 0));
        due("room for it", 0, x.end(1));
        ShapeSessions y = new ShapeSessions();
        y.set(0, 0);
        y.start(1, 3);
        y.start(1, 4);
        y.alter(0, 1);
        y.set(1, 1);
        due("a stale one and a drop", 2, y.end(0));
        due("drops", 1, y.sessionOf(1, 7));
        due("the one at work is left", 2, y.entry(1, 0, 0));
    }

    private static void promise5() {
        CHECKS.part("promise 5");
        ShapeSessions x = new ShapeSessions();
        due("0", INVALID, x.tick(0));
        due("-1", INVALID, x.tick(-1));
        due("100", INVALID, x.tick(100));
        due("99", 0, x.tick(99));
        due("tick", 99, x.count(0));
        x.alter(0, 1);
        due("not yet", 0, x.tick(2));
        x.alter(0, 2);
        due("on their way", 2, x.sessionOf(2, 1));
        due("the first", 4, x.tick(1));
        due("known", 1, x.sessionOf(2, 0));
        due("the second", 4, x.tick(99));
        due("known", 2, x.sessionOf(2, 0));
        due("late", 0, x.sessionOf(2, 9));
        due("no more", 0, x.tick(99));
        x.set(0, 20);
        x.start(1, 1);
        x.end(0);
        x.alter(0, 3);
        x.start(2, 8);
        due("19", 0, x.tick(19));
        due("not stale", 0, x.entry(1, 0, 5));
        due("20", 4, x.tick(1));
        due("gone", 0, x.sessionOf(1, 2));
        due("late to 2", 1, x.sessionOf(2, 9));
        due("not to 1", 0, x.sessionOf(1, 9));
    }

    private static void promise5Order() {
        CHECKS.part("promise 5, order");
        ShapeSessions x = new ShapeSessions();
        x.set(0, 5);
        x.alter(0, 1);
        x.set(0, 2);
        x.alter(1, 1);
        x.set(0, 5);
        x.alter(2, 1);
        due("the second comes first", 4, x.tick(2));
        due("and all ahead of it", 2, x.sessionOf(0, 0));
        due("on their way", 2, x.sessionOf(0, 1));
        due("not late", 0, x.sessionOf(0, 9));
        due("the first and the third", 8, x.tick(3));
        due("the first was late", 1, x.sessionOf(0, 9));
        due("known", 3, x.sessionOf(0, 0));
        ShapeSessions y = new ShapeSessions();
        y.alter(0, 1);
        y.set(0, 0);
        y.alter(1, 1);
        due("at once, and all ahead", 2, y.sessionOf(1, 0));
        due("on its way, though known", 1, y.sessionOf(1, 1));
        due("comes", 4, y.tick(3));
        due("late", 1, y.sessionOf(1, 9));
        ShapeSessions z = new ShapeSessions();
        z.alter(0, 1);
        z.alter(1, 1);
        due("in one tick", 8, z.tick(3));
        due("in their order none is late", 0, z.sessionOf(0, 9));
    }

    private static void promise6() {
        CHECKS.part("promise 6");
        ShapeSessions x = new ShapeSessions();
        due("what -1", INVALID, x.set(-1, 3));
        due("what 2", INVALID, x.set(2, 3));
        due("ticks -1", INVALID, x.set(0, -1));
        due("ticks 21", INVALID, x.set(0, 21));
        due("room 0", INVALID, x.set(1, 0));
        due("room 9", INVALID, x.set(1, 9));
        due("history", 0, x.count(4));
        due("ticks", 3, x.set(0, 20));
        due("ticks", 20, x.set(0, 0));
        due("ticks", 0, x.set(0, 1));
        due("room", 3, x.set(1, 8));
        due("the same", 8, x.set(1, 8));
        due("history", 4, x.count(4));
        due("setting 0", 1, x.count(20));
        due("setting 1", 8, x.count(21));
        x.alter(0, 1);
        x.set(0, 9);
        due("as it was when it went out", 4, x.tick(1));
    }

    private static void promise6Room() {
        CHECKS.part("promise 6, room");
        ShapeSessions x = new ShapeSessions();
        x.set(1, 4);
        x.start(0, 1);
        x.start(0, 14);
        x.start(1, 48);
        x.end(1);
        x.end(2);
        x.start(0, 2);
        x.end(3);
        due("room 3", 4, x.set(1, 3));
        due("one goes", 3, x.sessionOf(0, 2));
        due("table 2, not 0 at work, nor 1 used later", 3, x.entry(0, 2, 0));
        due("none goes of session 1", 2, x.sessionOf(1, 2));
        due("room 1", 3, x.set(1, 1));
        due("left", 1, x.sessionOf(0, 2));
        due("that at work", 0, x.entry(0, 0, 0));
        due("drops of 0", 3, x.sessionOf(0, 7));
        due("drops of 1", 1, x.sessionOf(1, 7));
        due("left of 1", 5, x.entry(1, 0, 0));
    }

    private static void promise7() {
        CHECKS.part("promise 7");
        ShapeSessions x = new ShapeSessions();
        due("table -1", INVALID, x.tableOf(-1, 0));
        due("table 6", INVALID, x.tableOf(6, 0));
        due("what -1", INVALID, x.tableOf(0, -1));
        due("what 5", INVALID, x.tableOf(0, 5));
        x.start(0, 4);
        x.end(0);
        due("in a hand alone", MISSING, x.tableOf(2, 2));
        due("hands", 1, x.tableOf(2, 3));
        x.start(2, 4);
        due("hands", 2, x.tableOf(2, 3));
        due("least", 0, x.tableOf(2, 2));
        x.alter(2, 3);
        due("version", 1, x.tableOf(2, 0));
        due("shape", 9, x.tableOf(2, 1));
        due("cannot change", 0, x.tableOf(2, 4));
        x.start(0, 4);
        due("least of two sessions", 0, x.tableOf(2, 2));
        due("hands, old and new", 2, x.tableOf(2, 3));
        x.tick(3);
        due("stale ones do not count", 1, x.tableOf(2, 3));
        x.end(1);
        due("least", 1, x.tableOf(2, 2));
        due("can change", 1, x.tableOf(2, 4));
        x.start(0, 4);
        x.alter(2, 4);
        x.start(0, 4);
        due("least of one session", 1, x.tableOf(2, 2));
        due("two entries, one hand", 1, x.tableOf(2, 3));
        x.start(0, 8);
        x.alter(3, 1);
        x.start(2, 8);
        due("least, the lower session's", 0, x.tableOf(3, 2));
    }

    private static void promise8() {
        CHECKS.part("promise 8");
        ShapeSessions x = new ShapeSessions();
        due("session -1", INVALID, x.sessionOf(-1, 0));
        due("session 4", INVALID, x.sessionOf(4, 0));
        due("what -1", INVALID, x.sessionOf(0, -1));
        due("what 10", INVALID, x.sessionOf(0, 10));
        x.start(1, 7);
        x.start(1, 1);
        x.alter(0, 1);
        x.set(0, 7);
        x.alter(1, 1);
        x.alter(3, 1);
        x.end(1);
        x.tick(3);
        x.set(1, 5);
        x.start(1, 3);
        int[] due = {3, 2, 5, 2, 2, 1, 5, 0, 1, 0};
        for (int what = 0; what < due.length; what++) {
            due("what " + what, due[what], x.sessionOf(1, what));
        }
        x.set(1, 1);
        x.tick(4);
        due("ended", 3, x.end(0));
        int[] then = {3, 0, 2, 0, 1, 1, 5, 1, 1, 2};
        for (int what = 0; what < then.length; what++) {
            due("then what " + what, then[what], x.sessionOf(1, what));
        }
        due("another's late ones", 0, x.sessionOf(0, 9));
    }

    private static void promise9() {
        CHECKS.part("promise 9");
        ShapeSessions x = new ShapeSessions();
        x.set(0, 0);
        x.start(3, 34);
        x.alter(1, 6);
        x.start(3, 2);
        due("session -1", INVALID, x.entry(-1, 0, 0));
        due("session 4", INVALID, x.entry(4, 0, 0));
        due("index -1", INVALID, x.entry(3, -1, 0));
        due("what -1", INVALID, x.entry(3, 0, -1));
        due("what 6", INVALID, x.entry(3, 0, 6));
        due("a wrong what, not so many", INVALID, x.entry(3, 3, 6));
        due("not so many", MISSING, x.entry(3, 3, 0));
        due("the greatest", MISSING, x.entry(3, Integer.MAX_VALUE, 0));
        int[][] due = {{1, 0, 1, 1, 0, 1}, {1, 1, 65, 1, 1, 0}, {5, 0, 1, 1, 0, 0}};
        for (int index = 0; index < 3; index++) {
            for (int what = 0; what < 6; what++) {
                due("entry " + index + " " + what, due[index][what], x.entry(3, index, what));
            }
        }
        x.set(1, 4);
        x.start(3, 1);
        due("a lower table ahead", 0, x.entry(3, 0, 0));
        due("the last", 5, x.entry(3, 3, 0));
        x.start(1, 2);
        x.start(1, 8);
        due("tables rather than versions", 1, x.entry(1, 0, 0));
        due("tables rather than versions", 3, x.entry(1, 1, 0));
    }

    private static void promise10() {
        CHECKS.part("promise 10");
        ShapeSessions x = new ShapeSessions();
        x.tick(7);
        x.start(2, 11);
        x.tick(1);
        x.start(1, 2);
        due("-1", INVALID, x.statement(-1, 0));
        due("what -1", INVALID, x.statement(0, -1));
        due("what 4", INVALID, x.statement(0, 4));
        due("a wrong what of none", INVALID, x.statement(9, 4));
        due("none", MISSING, x.statement(2, 0));
        due("session", 2, x.statement(0, 0));
        due("tables", 11, x.statement(0, 1));
        due("tick", 7, x.statement(0, 2));
        due("outrun", 0, x.statement(0, 3));
        due("tick", 8, x.statement(1, 2));
        x.alter(3, 1);
        x.alter(0, 1);
        x.alter(2, 1);
        due("outrun", 9, x.statement(0, 3));
        due("the other", 0, x.statement(1, 3));
        x.end(0);
        due("ended", MISSING, x.statement(0, 0));
        due("not ended", 1, x.statement(1, 0));
    }

    private static void promise11() {
        CHECKS.part("promise 11");
        ShapeSessions x = new ShapeSessions();
        due("none", MISSING, x.notice(0));
        due("-1", INVALID, x.notice(-1));
        x.alter(4, 1);
        x.alter(0, 1);
        x.alter(4, 1);
        due("first", 4, x.notice(0));
        due("second", 0, x.notice(1));
        due("third", 4, x.notice(2));
        due("none", MISSING, x.notice(3));
        due("none", MISSING, x.notice(100));
        due("none", MISSING, x.notice(Integer.MAX_VALUE));
        due("the least", INVALID, x.notice(Integer.MIN_VALUE));
    }

    private static void promise12() {
        CHECKS.part("promise 12");
        ShapeSessions x = new ShapeSessions();
        int[] wrong = {-1, 9, 10, 19, 22, Integer.MAX_VALUE, Integer.MIN_VALUE};
        for (int what : wrong) {
            due("what " + what, INVALID, x.count(what));
        }
        x.tick(5);
        x.start(0, 3);
        x.start(1, 3);
        x.start(2, 1);
        x.end(1);
        x.alter(1, 1);
        x.alter(5, 1);
        x.set(0, 9);
        x.set(1, 7);
        write(x, "t1");
        x.keep();
        int[] due = {5, 2, 3, 2, 4, 2, 1, 61, 5};
        for (int what = 0; what < due.length; what++) {
            due("what " + what, due[what], x.count(what));
        }
        due("setting 0", 9, x.count(20));
        due("setting 1", 7, x.count(21));
        x.alter(0, 1);
        due("neither 0 nor 1", 60, x.count(7));
    }

    private static void promise13() {
        CHECKS.part("promise 13");
        ShapeSessions x = new ShapeSessions();
        due("session -1", INVALID, x.would(-1, 1, 0));
        due("session 4", INVALID, x.would(4, 1, 0));
        due("no tables", INVALID, x.would(0, 0, 0));
        due("tables 64", INVALID, x.would(0, 64, 0));
        due("what -1", INVALID, x.would(0, 1, -1));
        due("what 4", INVALID, x.would(0, 1, 4));
        due("no room", LIMIT, x.would(0, 15, 0));
        due("the first statement of all", 2, x.would(3, 3, 1));
        due("an argument rather", INVALID, x.would(0, 15, 4));
        x.start(0, 7);
        x.end(0);
        x.alter(0, 1);
        x.alter(5, 1);
        due("hits", 2, x.would(0, 6, 0));
        due("hits, 0 is old", 1, x.would(0, 3, 0));
        due("loads, 0 is old", 1, x.would(0, 3, 1));
        due("drops, the old one is none", 0, x.would(0, 3, 2));
        due("drops, once the old one has gone", 2, x.would(0, 25, 2));
        due("no drop", 0, x.would(0, 6, 2));
        due("loads", 3, x.would(0, 25, 1));
        due("learns", 2, x.would(0, 1, 3));
        due("another learns", 2, x.would(1, 1, 3));
        due("nothing has changed", 0, x.sessionOf(0, 0));
        due("no statement", 1, x.count(2));
        due("history", 4, x.count(4));
        x.tick(3);
        due("learns nothing", 0, x.would(0, 1, 3));
        x.start(0, 24);
        x.end(1);
        due("one went before", 1, x.sessionOf(0, 7));
        due("drops of this one alone", 1, x.would(0, 32, 2));
        x.start(0, 2);
        x.start(0, 2);
        x.start(0, 2);
        due("a fourth", 1, x.would(0, 2, 0));
        x.start(0, 2);
        due("a fifth", LIMIT, x.would(0, 2, 0));
    }

    private static void promise14() {
        CHECKS.part("promise 14");
        ShapeSessions x = new ShapeSessions();
        due("table -1", INVALID, x.inTheWay(-1));
        due("table 6", INVALID, x.inTheWay(6));
        due("none", MISSING, x.inTheWay(0));
        x.start(3, 4);
        x.start(3, 1);
        x.start(0, 1);
        x.start(3, 1);
        due("works by what is current", MISSING, x.inTheWay(0));
        x.alter(2, 1);
        due("the statement 0", 0, x.inTheWay(2));
        x.start(1, 1);
        x.end(0);
        due("ended", MISSING, x.inTheWay(2));
        x.alter(0, 1);
        due("the lowest", 1, x.inTheWay(0));
        due("another table", MISSING, x.inTheWay(2));
        x.start(3, 1);
        x.end(1);
        due("then, of another session", 2, x.inTheWay(0));
        x.end(2);
        due("then", 3, x.inTheWay(0));
        x.end(3);
        due("then", 4, x.inTheWay(0));
        x.end(4);
        due("one by the new version is none", MISSING, x.inTheWay(0));
        ShapeSessions y = new ShapeSessions();
        for (int i = 0; i < 6; i++) {
            y.start(i / 2, 1);
        }
        y.alter(0, 1);
        due("0, the lowest of its session and of all", 0, y.inTheWay(0));
    }

    private static void promise15() {
        CHECKS.part("promise 15");
        ShapeSessions x = new ShapeSessions();
        due("none", MISSING, x.bestRoom(0));
        due("none", MISSING, x.bestRoom(1));
        due("what -1", INVALID, x.bestRoom(-1));
        due("what 2", INVALID, x.bestRoom(2));
        x.start(0, 1);
        due("one", 1, x.bestRoom(0));
        due("loads", 1, x.bestRoom(1));
        x.start(0, 2);
        x.start(0, 1);
        due("two", 2, x.bestRoom(0));
        due("loads", 2, x.bestRoom(1));
        x.start(1, 7);
        due("three, so that all can start", 3, x.bestRoom(0));
        due("loads", 5, x.bestRoom(1));
        x.alter(0, 1);
        x.end(0);
        x.start(0, 1);
        due("tables do not change", 5, x.bestRoom(1));
        due("the room stays", 3, x.count(21));
        due("no statement more", 5, x.count(2));
        x.set(1, 8);
        x.start(2, 63);
        due("six", 6, x.bestRoom(0));
        due("loads", 11, x.bestRoom(1));
    }

    private static void promise15Latest() {
        CHECKS.part("promise 15, the latest");
        ShapeSessions x = new ShapeSessions();
        x.start(0, 7);
        x.end(0);
        for (int i = 1; i <= 11; i++) {
            x.start(i % 4, 1 << i % 2);
            x.end(i);
        }
        due("twelve", 3, x.bestRoom(0));
        x.start(0, 1);
        due("the first has left", 1, x.bestRoom(0));
        due("loads, one of each session", 4, x.bestRoom(1));
        ShapeSessions y = new ShapeSessions();
        y.start(0, 1);
        y.end(0);
        y.start(0, 2);
        y.end(1);
        y.start(0, 4);
        y.end(2);
        y.start(0, 1);
        due("the longest ago goes, so it takes three", 3, y.bestRoom(0));
        due("loads", 3, y.bestRoom(1));
        ShapeSessions z = new ShapeSessions();
        for (int i = 0; i < 4; i++) {
            z.start(2, 1);
        }
        z.end(0);
        z.start(2, 2);
        z.alter(0, 1);
        due("each is ended at once, with none open at first", 1, z.bestRoom(0));
        due("loads", 2, z.bestRoom(1));
        due("still not ended", 4, z.count(3));
    }

    private static void promise16And17() {
        CHECKS.part("promises 16, 17");
        ShapeSessions x = new ShapeSessions();
        due("no snapshot", IMPOSSIBLE, x.restore());
        x.tick(4);
        x.start(0, 1);
        x.alter(1, 1);
        write(x, "t9;");
        due("keep", 4, x.keep());
        due("keep is no change", 3, x.count(4));
        x.tick(9);
        x.end(0);
        x.set(0, 7);
        x.set(1, 1);
        x.clearText();
        due("restore", 4, x.restore());
        due("tick", 4, x.count(0));
        due("statement", 0, x.statement(0, 0));
        due("setting 0", 3, x.count(20));
        due("setting 1", 3, x.count(21));
        due("on their way", 1, x.sessionOf(0, 1));
        due("the text is not in it", 0, x.count(5));
        due("the history is not in it, and restore is a change", 4, x.count(4));
        due("undo", 3, x.undo());
        due("before restore", 13, x.count(0));
        due("it stays", 1, x.count(6));
        due("restore again", 4, x.restore());
        x.tick(1);
        due("in its place", 5, x.keep());
        x.tick(50);
        due("restore", 5, x.restore());
        x.tick(2);
        due("what came later is not in it", 5, x.restore());
    }

    private static void promise18() {
        CHECKS.part("promise 18");
        ShapeSessions x = new ShapeSessions();
        due("empty", IMPOSSIBLE, x.undo());
        x.keep();
        x.alter(0, 1);
        x.start(0, 1);
        x.set(1, 2);
        x.tick(5);
        x.end(0);
        due("four states", 4, x.count(4));
        write(x, "ab");
        x.keep();
        due("undo end", 3, x.undo());
        due("not ended", 1, x.count(3));
        due("the text stays", 2, x.count(5));
        due("the snapshot stays", 1, x.count(6));
        due("undo tick", 2, x.undo());
        due("tick", 0, x.count(0));
        due("on their way", 1, x.sessionOf(0, 1));
        due("undo set", 1, x.undo());
        due("setting", 3, x.count(21));
        due("undo start", 0, x.undo());
        due("no statement", 0, x.count(2));
        due("the oldest was dropped", 1, x.tableOf(0, 0));
        due("empty", IMPOSSIBLE, x.undo());
        due("a number again", 0, x.start(1, 1));
        due("history", 1, x.count(4));
        due("an error records nothing", INVALID, x.tick(0));
        due("history", 1, x.count(4));
        due("restore what was kept", 5, x.restore());
        due("history", 2, x.count(4));
        due("undo restore", 1, x.undo());
        due("back", 1, x.statement(0, 0));
        due("undo start", 0, x.undo());
        due("back", MISSING, x.statement(0, 0));
        ShapeSessions y = new ShapeSessions();
        y.tick(1);
        y.undo();
        y.tick(2);
        y.tick(4);
        y.tick(8);
        due("what was undone is not in the way of what came then", 2, y.undo());
        due("tick", 6, y.count(0));
        due("undo", 1, y.undo());
        due("tick", 2, y.count(0));
        due("undo", 0, y.undo());
        due("tick", 0, y.count(0));
    }

    private static void promise19And20() {
        CHECKS.part("promises 19, 20");
        ShapeSessions x = new ShapeSessions();
        due("empty", 0, x.clearText());
        due("31", INVALID, x.type(31));
        due("127", INVALID, x.type(127));
        due("-1", INVALID, x.type(-1));
        due("32", 1, x.type(32));
        due("126", 2, x.type(126));
        for (int i = 3; i <= 60; i++) {
            due("type", i, x.type('x'));
        }
        due("full", LIMIT, x.type('x'));
        due("an argument rather", INVALID, x.type(127));
        due("length", 60, x.count(5));
        due("no change", 0, x.count(4));
        due("clear", 60, x.clearText());
        due("length", 0, x.count(5));
        due("again", 0, x.clearText());
        due("type", 1, x.type('t'));
        due("no change", 0, x.count(4));
    }

    private static void promise21() {
        CHECKS.part("promise 21");
        ShapeSessions x = new ShapeSessions();
        due("empty", MISSING, x.fault(0));
        due("empty", MISSING, x.fault(2));
        due("what -1", INVALID, x.fault(-1));
        due("what 3", INVALID, x.fault(3));
        write(x, "t005;c0,1;s3,1;e0;t99;");
        due("none", MISSING, x.fault(0));
        due("none", MISSING, x.fault(1));
        due("nothing is done", 0, x.count(0));
        write(x, "s0,1;c0,1;c0,2;x");
        due("position", 10, x.fault(0));
        due("reason", 2, x.fault(1));
        due("cause", IMPOSSIBLE, x.fault(2));
        write(x, "s0,1;e0;e0;");
        due("position", 8, x.fault(0));
        due("cause", IMPOSSIBLE, x.fault(2));
        write(x, "s0,63;");
        due("cause", LIMIT, x.fault(2));
        due("position", 0, x.fault(0));
        String[] invalid = {"c6,1;", "c1,8;", "s4,1;", "s0,0;", "s0,64;", "t0;", "t100;", "t999;"};
        for (String command : invalid) {
            write(x, "t1;" + command);
            due("position of " + command, 3, x.fault(0));
            due("reason of " + command, 2, x.fault(1));
            due("cause of " + command, INVALID, x.fault(2));
        }
        due("what 3 of a fault", INVALID, x.fault(3));
    }

    private static void promise21Forms() {
        CHECKS.part("promise 21, forms");
        String[] wrong = {"t", "t1", "t;", "t1,2;", "t0001;", "t-1;", "t 1;", "T1;", ";", "1;", "c1;", "c1,;", "c,1;",
            "c1,1", "c1,1,1;", "c1 1;", "s1;", "s1,1234;", "s1234,1;", "e;", "e1,1;", "e0x;", "t1:", "t/;", "x1;", "x1,1;", " "};
        for (String command : wrong) {
            ShapeSessions x = new ShapeSessions();
            write(x, "t1;" + command + "t0;");
            due("position of " + command, 3, x.fault(0));
            due("reason of " + command, 1, x.fault(1));
            due("cause of " + command, MISSING, x.fault(2));
            due("play " + command, IMPOSSIBLE, x.play());
        }
        ShapeSessions open = new ShapeSessions();
        String[] endings = {"t1;t1", "t1;t", "t", "t1", "c", "c1", "c1,", "c1,1", "s001,001"};
        for (String command : endings) {
            write(open, command);
            due("reason of " + command, 1, open.fault(1));
        }
        String[] right = {"c1,1;", "c001,007;", "s3,63;", "s000,01;", "t99;", "t001;"};
        ShapeSessions roomy = new ShapeSessions();
        roomy.set(1, 8);
        for (String command : right) {
            write(roomy, command);
            due("fault of " + command, MISSING, roomy.fault(1));
        }
    }

    private static void promise22() {
        CHECKS.part("promise 22");
        ShapeSessions x = new ShapeSessions();
        due("an empty text", 0, x.play());
        due("is a change", 1, x.count(4));
        write(x, "t2;c4,1;s1,16;e0;t3;");
        due("play", 5, x.play());
        due("one change", 2, x.count(4));
        due("the text stays", 20, x.count(5));
        due("tick", 5, x.count(0));
        due("version", 1, x.tableOf(4, 0));
        due("statements", 1, x.count(2));
        due("late", 1, x.sessionOf(1, 9));
        due("the statement 0 has ended", IMPOSSIBLE, x.play());
        due("nothing changed", 5, x.count(0));
        due("no change", 2, x.count(4));
        due("undo", 1, x.undo());
        due("tick", 0, x.count(0));
        due("version", 0, x.tableOf(4, 0));
        due("play again", 5, x.play());
        write(x, "t1;t1;t0;");
        due("a fault", IMPOSSIBLE, x.play());
        due("nothing of it is done", 5, x.count(0));
        write(x, "t1;t1;t1;t1;t1;t1;t1;t1;t1;t1;t1;t1;t1;t1;t1;t1;t1;t1;t1;t1;");
        due("twenty", 20, x.play());
        due("tick", 25, x.count(0));
    }
}

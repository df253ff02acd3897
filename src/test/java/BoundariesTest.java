/**
 * The sentences of the promises 1 to 22 that name a boundary, in their order: each has a run of its
 * own on a new object, which tells it wrong if it does not hold.
 */
public final class BoundariesTest {
    private static final int FAR_BELOW = Integer.MIN_VALUE;
    private static final int FAR_ABOVE = Integer.MAX_VALUE;
    private static final int INVALID = -1;
    private static final int LIMIT = -3;
    private static final int MOST_STATEMENTS = 999;
    /** 96 notices. */
    private static final String NOTICES = "text c0,1; * 12 | 8 times play = 12 | clearText = 60 | ";
    /** 12 statements, the first by 3 tables and the others by 1. */
    private static final String TWELVE = """
        start 0 7 = 0 | end 0 = 0 | start 0 1 = 1 | end 1 | start 1 1 = 2 | end 2 | start 2 1 = 3 | end 3 | start 3 1 = 4 | end 4
        start 0 1 = 5 | end 5 | start 1 1 = 6 | end 6 | start 2 1 = 7 | end 7 | start 3 1 = 8 | end 8 | start 0 1 = 9 | end 9
        start 1 1 = 10 | end 10 | start 2 1 = 11 | end 11 | bestRoom 0 = 3 | bestRoom 1 = 6
        """;

    private static final Checks CHECKS = new Checks("BoundariesTest");

    private static void told(String sentence, String rows) {
        Rows.check(CHECKS, sentence, rows);
    }

    public static void main(String[] args) {
        ranges();
        counts();
        newObject();
        alter();
        start();
        mostStatements();
        end();
        tick();
        set();
        tableOf();
        sessionOf();
        entry();
        statement();
        notice();
        count();
        would();
        inTheWay();
        bestRoom();
        bestRoomOfTheLatest();
        keepAndRestore();
        undo();
        typeAndClearText();
        fault();
        play();
        CHECKS.close();
    }

    /** Each argument that has two ends: just beyond them and far beyond is INVALID_ARGUMENT, the ends are not. */
    private static void ranges() {
        range("alter", 0, 0, 5, 1, 1);
        range("alter", 1, 0, 7, 1, 1);
        range("start", 0, 0, 3, 1, 1);
        range("start", 1, 1, 63, 1, 1);
        range("tick", 0, 1, 99, 1);
        range("set", 0, 0, 1, 1, 1);
        range("set", 1, 0, 20, 0, 1);
        range("set", 1, 1, 8, 1, 1);
        range("tableOf", 0, 0, 5, 1, 1);
        range("tableOf", 1, 0, 4, 1, 1);
        range("sessionOf", 0, 0, 3, 1, 1);
        range("sessionOf", 1, 0, 9, 1, 1);
        range("entry", 0, 0, 3, 1, 0, 1);
        range("entry", 1, 0, FAR_ABOVE, 1, 0, 1);
        range("entry", 2, 0, 5, 1, 0, 1);
        range("statement", 0, 0, FAR_ABOVE, 0, 1);
        range("statement", 1, 0, 3, 0, 1);
        range("notice", 0, 0, FAR_ABOVE, 0);
        range("end", 0, 0, FAR_ABOVE, 0);
        range("would", 0, 0, 3, 1, 1, 1);
        range("would", 1, 1, 63, 1, 1, 1);
        range("would", 2, 0, 3, 1, 1, 1);
        range("inTheWay", 0, 0, 5, 1);
        range("bestRoom", 0, 0, 1, 1);
        range("type", 0, 32, 126, 64);
        range("fault", 0, 0, 2, 1);
    }

    private static void range(String call, int place, int least, int most, int... arguments) {
        for (int state = 0; state < 2; state++) {
            CHECKS.part("range of argument " + place + " of " + call + ", state " + state);
            int[] beyond = {least - 1, most == FAR_ABOVE ? FAR_BELOW + 1 : most + 1, FAR_BELOW, most == FAR_ABOVE ? -2 : FAR_ABOVE};
            for (int value : beyond) {
                CHECKS.due("with " + value, INVALID, answerWith(state, call, place, value, arguments));
            }
            for (int value : new int[] {least, most}) {
                CHECKS.holds("not invalid with " + value, answerWith(state, call, place, value, arguments) != INVALID);
            }
        }
    }

    /** On a new object, or on one with a statement, a notice, and a text with a fault. */
    private static int answerWith(int state, String call, int place, int value, int[] arguments) {
        ShapeSessions x = new ShapeSessions();
        if (state == 1) {
            x.start(1, 7);
            x.alter(0, 1);
            x.type('t');
        }
        int[] a = arguments.clone();
        a[place] = value;
        return Calls.answer(x, call, a);
    }

    private static void counts() {
        CHECKS.part("range of count");
        ShapeSessions x = new ShapeSessions();
        for (int what = -20; what <= 40; what++) {
            boolean there = what >= 0 && what <= 8 || what == 20 || what == 21;
            CHECKS.holds("what " + what, there == (x.count(what) != INVALID));
        }
        for (int what : new int[] {FAR_BELOW, FAR_ABOVE, FAR_BELOW + 20, 256, 65536 + 20}) {
            CHECKS.due("what " + what, INVALID, x.count(what));
        }
    }

    private static void newObject() {
        told("Creates tables of one column", """
            tableOf 0 1 = 1 | tableOf 5 1 = 1 | alter 0 0 = -2 | alter 5 0 = -2 | count 7 = 63 | count 1 = 0 | notice 0 = -4
            """);
        told("and sessions with empty hands", """
            sessionOf 0 2 = 0 | sessionOf 1 2 = 0 | sessionOf 2 2 = 0 | sessionOf 3 2 = 0 | entry 0 0 0 = -4 | entry 3 0 0 = -4
            tableOf 0 3 = 0 | tableOf 0 2 = -4 | statement 0 0 = -4 | end 0 = -2
            """);
        told("a new object's history, text and snapshot", """
            count 4 = 0 | undo = -2 | count 5 = 0 | clearText = 0 | fault 0 = -4 | fault 1 = -4 | fault 2 = -4
            count 6 = 0 | restore = -2 | bestRoom 0 = -4 | bestRoom 1 = -4
            """);
        told("what a new object would do", "would 0 1 0 = 0 | would 0 1 1 = 1 | would 0 1 2 = 0 | would 0 1 3 = 0 | would 3 7 1 = 3 | would 0 15 1 = -3 | play = 0");
    }

    private static void alter() {
        told("comes into its shape if it is not in it, otherwise it goes", """
            alter 4 7 = 1 | tableOf 4 1 = 129 | alter 4 7 = 2 | tableOf 4 1 = 1 | alter 4 7 = 3 | alter 4 0 = 4 | tableOf 4 1 = 128 | alter 4 0 = 5 | tableOf 4 1 = 129
            """);
        told("or no column would be left", """
            alter 2 0 = -2 | tableOf 2 1 = 1 | alter 2 3 = 1 | alter 2 0 = 2 | alter 2 3 = -2 | tableOf 2 1 = 8 | tableOf 2 0 = 2 | count 1 = 2
            """);
        told("LIMIT_REACHED if 100 notices went out: 99 are not 100", NOTICES + """
            alter 1 1 = 1 | alter 1 2 = 2 | alter 1 3 = 3 | count 1 = 99 | alter 1 4 = 4 | count 1 = 100 | alter 1 5 = -3 | alter 0 1 = -3
            notice 99 = 1 | notice 100 = -4 | count 1 = 100 | tableOf 1 0 = 4 | undo = 3 | alter 5 1 = 1 | notice 99 = 5
            """);
        told("100 notices come", NOTICES + """
            alter 1 1 | alter 1 2 | alter 1 3 | alter 1 4 | sessionOf 0 1 = 100 | would 0 1 3 = 100 | start 0 1 = 0 | sessionOf 0 0 = 100
            tick 2 = 0 | tick 1 = 400 | sessionOf 0 9 = 100 | sessionOf 1 9 = 0 | sessionOf 1 0 = 100 | tick 99 = 0
            """);
        told("100 notices that come at once", """
            set 0 0 | text c0,1; * 12 | 8 times play = 12 | alter 0 1 = 97 | alter 0 1 = 98 | alter 0 1 = 99 | alter 0 1 = 100 | alter 0 1 = -3
            sessionOf 0 0 = 100 | sessionOf 3 0 = 100 | sessionOf 3 9 = 0
            """);
    }

    private static void start() {
        told("a set of tables, 1 to 63", "set 1 8 | start 0 1 = 0 | start 1 63 = 1 | sessionOf 1 6 = 6 | start 2 0 = -1 | start 2 64 = -1 | start 2 65 = -1 | start 2 -1 = -1");
        told("LIMIT_REACHED if it cannot start", "start 0 15 = -3 | 4 times start 0 1 | start 0 1 = -3 | count 2 = 4");
        told("Returns the number, also after an undo", "start 0 1 = 0 | start 0 1 = 1 | undo = 1 | start 2 1 = 1 | statement 1 0 = 2 | 2 times undo | start 3 1 = 0");
    }

    /**
     * 512 calls cannot bring 999 statements, each of which but 16 must have been ended by its number;
     * what later calls answer is free, and the class holds the limit then, too.
     */
    private static void mostStatements() {
        CHECKS.part("or 999 started so far");
        ShapeSessions x = new ShapeSessions();
        for (int number = 0; number < MOST_STATEMENTS; number++) {
            CHECKS.due("start", number, x.start(number % 4, 1));
            CHECKS.due("end", 0, x.end(number));
        }
        CHECKS.due("the 1000th", LIMIT, x.start(0, 1));
        CHECKS.due("an argument rather", INVALID, x.start(0, 0));
        CHECKS.due("statements", MOST_STATEMENTS, x.count(2));
        x.undo();
        x.undo();
        CHECKS.due("the 999th again", MOST_STATEMENTS - 1, x.start(0, 1));
        CHECKS.due("the 1000th", LIMIT, x.start(0, 1));
    }

    private static void end() {
        told("Returns how many entries go from the hand by that: none", "start 0 7 = 0 | end 0 = 0 | sessionOf 0 2 = 3");
        told("stale ones and drops, all of them", """
            set 1 6 | set 0 0 | start 0 63 = 0 | start 0 1 = 1 | alter 1 1 | alter 2 1 | set 1 1 | sessionOf 0 2 = 6
            end 0 = 5 | sessionOf 0 7 = 3 | entry 0 0 0 = 0 | entry 0 1 0 = -4 | end 1 = 0
            """);
        told("INVALID_ARGUMENT if it is below 0", "end -1 = -1 | end -2147483648 = -1 | end 0 = -2 | end 2147483647 = -2");
        told("NOT_POSSIBLE if there is none with this number that has not ended", """
            start 0 1 = 0 | end 1 = -2 | end 0 = 0 | end 0 = -2 | start 0 1 = 1 | end 0 = -2 | end 1 = 0 | end 1 = -2
            undo = 3 | end 1 = 0 | undo = 3 | undo = 2 | end 1 = -2
            """);
    }

    private static void tick() {
        told("ticks 1 to 99", "tick 1 = 0 | count 0 = 1 | tick 99 = 0 | count 0 = 100 | tick 0 = -1 | tick 100 = -1 | tick -1 = -1 | count 0 = 100");
        told("tick by tick, in their order: what comes in an earlier tick comes first", """
            set 0 5 | alter 0 1 | set 0 1 | alter 1 1 | tick 99 = 8 | sessionOf 0 9 = 1 | sessionOf 0 0 = 2
            """);
        told("for each session by itself, late ones too", """
            alter 0 1 | start 0 1 | start 1 1 | start 2 1 | start 3 1 | tick 3 = 4 | sessionOf 0 9 = 1 | sessionOf 3 9 = 1
            """);
        told("those in them, and no others", """
            set 0 2 | alter 0 1 | alter 1 1 | tick 1 = 0 | alter 2 1 | tick 1 = 8 | tick 1 = 4 | tick 1 = 0
            """);
        told("one that came at once does not come again", "set 0 0 | alter 0 1 | tick 1 = 0 | tick 99 = 0 | sessionOf 0 9 = 0");
        told("one that an undo takes back does not come", "alter 0 1 | undo = 0 | tick 3 = 0 | sessionOf 0 0 = 0 | alter 1 1 | tick 3 = 4");
        told("nor later, nor one of a text that was not played", """
            alter 0 1 | undo = 0 | tick 1 = 0 | tick 5 = 0 | tick 9 = 0 | text c0,1;t0; | play = -2 | tick 3 = 0 | tick 3 = 0 | sessionOf 0 0 = 0
            """);
        told("one that came comes again after an undo", "alter 0 1 | tick 3 = 4 | undo = 1 | sessionOf 0 1 = 1 | tick 2 = 0 | tick 1 = 4");
    }

    private static void set() {
        told("Returns what it was", "set 0 20 = 3 | set 0 0 = 20 | set 0 0 = 0 | set 1 8 = 3 | set 1 1 = 8 | set 1 1 = 1 | count 20 = 0 | count 21 = 1");
        told("what: 0 or 1", "set -1 3 = -1 | set 2 3 = -1 | set 20 3 = -1 | count 4 = 0");
        told("a value in its range: each has its own", "set 0 0 = 3 | set 1 0 = -1 | set 0 9 = 0 | set 1 9 = -1 | set 0 20 = 9 | set 1 20 = -1 | set 0 21 = -1");
    }

    private static void tableOf() {
        told("the least version of it by which a statement works in any session", """
            start 3 2 = 0 | tableOf 1 2 = 0 | alter 1 1 = 1 | start 0 2 = 1 | tableOf 1 2 = 0 | end 0 = 0 | tableOf 1 2 = 1
            """);
        told("NOT_FOUND for 2 if no statement works by it", """
            tableOf 1 2 = -4 | start 3 2 = 0 | tableOf 1 2 = 0 | tableOf 0 2 = -4 | tableOf 2 2 = -4 | end 0 = 0 | sessionOf 3 2 = 1 | tableOf 1 2 = -4
            """);
        told("in how many hands there is an entry of it that is not stale", """
            tableOf 0 3 = 0 | start 0 1 | start 1 1 | start 2 1 | tableOf 0 3 = 3 | start 3 1 | tableOf 0 3 = 4 | alter 0 1 = 1 | tableOf 0 3 = 4
            start 1 1 = 4 | tableOf 0 3 = 4 | tick 3 = 4 | tableOf 0 3 = 1 | sessionOf 1 2 = 2
            """);
        told("1 if it can change (whatever column)", """
            tableOf 0 4 = 1 | alter 0 0 = -2 | tableOf 0 4 = 1 | start 0 1 = 0 | tableOf 0 4 = 1 | alter 0 1 = 1 | tableOf 0 4 = 0 | tableOf 1 4 = 1
            end 0 = 0 | tableOf 0 4 = 1
            """);
        told("1 if it can change, at 100 notices, too", NOTICES + """
            alter 0 1 | alter 0 1 | alter 0 1 | alter 0 1 | alter 0 1 = -3 | tableOf 0 4 = 1 | count 7 = 63 | inTheWay 0 = -4
            """);
    }

    private static void sessionOf() {
        told("1: notices on their way to it (known or not)", """
            alter 0 1 | alter 1 1 | sessionOf 0 1 = 2 | start 0 1 = 0 | sessionOf 0 0 = 2 | sessionOf 0 1 = 2 | sessionOf 3 1 = 2
            tick 2 = 0 | sessionOf 0 1 = 2 | tick 1 = 8 | sessionOf 0 1 = 0
            """);
        told("2, 3: entries in its hand, stale ones of them", """
            set 0 0 | start 2 7 = 0 | sessionOf 2 2 = 3 | sessionOf 2 3 = 0 | alter 0 1 | alter 1 1 | sessionOf 2 3 = 2 | sessionOf 2 2 = 3
            alter 2 1 | sessionOf 2 3 = 3 | end 0 = 3 | sessionOf 2 2 = 0 | sessionOf 2 3 = 0
            """);
        told("4: statements that have not ended", "4 times start 1 1 | sessionOf 1 4 = 4 | sessionOf 0 4 = 0 | end 1 | end 2 | end 0 | sessionOf 1 4 = 1 | end 3 | sessionOf 1 4 = 0");
        told("5, 6: hits so far, loads", """
            start 1 7 = 0 | sessionOf 1 5 = 0 | sessionOf 1 6 = 3 | start 1 6 = 1 | sessionOf 1 5 = 2 | sessionOf 1 6 = 3 | sessionOf 0 5 = 0 | sessionOf 0 6 = 0
            """);
        told("7, 8, 9: drops, asks that helped, late notices", """
            start 1 7 = 0 | end 0 = 0 | set 1 1 | sessionOf 1 7 = 2 | alter 0 1 | start 1 32 = 1 | sessionOf 1 7 = 3 | sessionOf 1 8 = 1
            tick 3 = 4 | sessionOf 1 9 = 1 | sessionOf 2 7 = 0 | sessionOf 2 8 = 0 | sessionOf 2 9 = 0
            """);
    }

    private static void entry() {
        told("numbered from 0 on by their tables", """
            set 1 6 | start 0 32 | start 0 1 | start 0 8 | end 0 | start 0 4 | entry 0 0 0 = 0 | entry 0 1 0 = 2 | entry 0 2 0 = 3 | entry 0 3 0 = 5 | entry 0 4 0 = -4
            """);
        told("by their tables, rather than by their versions", """
            alter 0 1 | alter 0 2 | start 0 1 = 0 | start 0 2 = 1 | entry 0 0 0 = 0 | entry 0 0 1 = 2 | entry 0 1 0 = 1 | entry 0 1 1 = 0
            alter 3 1 | start 1 8 = 2 | start 1 2 = 3 | entry 1 0 0 = 1 | entry 1 1 0 = 3
            """);
        told("of one table by their versions", """
            set 0 0 | start 0 2 = 0 | alter 1 7 = 1 | start 0 2 = 1 | entry 0 0 1 = 0 | entry 0 1 1 = 1 | entry 0 0 2 = 1 | entry 0 1 2 = 129
            entry 0 0 5 = 1 | entry 0 1 5 = 0 | entry 0 2 1 = -4
            """);
        told("INVALID_ARGUMENT if an argument is out of range or index is negative", "entry 0 -1 0 = -1 | entry 0 -2147483648 0 = -1 | entry 0 0 6 = -1 | entry 0 0 -1 = -1 | entry -1 0 0 = -1");
        told("NOT_FOUND if there are not so many", """
            entry 0 0 0 = -4 | start 0 3 | entry 0 1 0 = 1 | entry 0 2 0 = -4 | entry 0 8 0 = -4 | entry 0 2147483647 0 = -4 | entry 1 0 0 = -4
            """);
        told("what went is not an entry", "start 0 7 = 0 | end 0 = 0 | set 1 1 | entry 0 0 0 = 2 | entry 0 1 0 = -4 | entry 0 2 0 = -4");
    }

    private static void statement() {
        told("INVALID_ARGUMENT if statement is below 0 or what is out of range", "start 0 1 = 0 | statement -1 0 = -1 | statement -2147483648 0 = -1 | statement 0 -1 = -1 | statement 0 4 = -1 | statement 9 4 = -1");
        told("NOT_FOUND if there is none with this number that has not ended", """
            statement 0 0 = -4 | start 3 63 = -3 | statement 0 0 = -4 | start 3 48 = 0 | statement 0 1 = 48 | statement 1 0 = -4
            statement 2147483647 0 = -4 | end 0 = 0 | statement 0 0 = -4 | undo = 1 | statement 0 0 = 3 | undo = 0 | statement 0 0 = -4
            """);
        told("the tick at which it started", "start 0 1 = 0 | tick 99 | start 0 1 = 1 | tick 1 | statement 0 2 = 0 | statement 1 2 = 99");
        told("whose version is greater now than that by which it works, as a set", """
            start 0 33 = 0 | statement 0 3 = 0 | alter 5 1 = 1 | statement 0 3 = 32 | alter 1 1 = 1 | statement 0 3 = 32
            start 0 33 = 1 | statement 1 3 = 0 | alter 0 1 = 1 | statement 0 3 = 33 | statement 1 3 = 1
            """);
    }

    private static void notice() {
        told("INVALID_ARGUMENT if notice is negative", "notice -1 = -1 | notice -2147483648 = -1 | notice 0 = -4");
        told("NOT_FOUND if not so many went out", "notice 0 = -4 | alter 2 1 | notice 0 = 2 | notice 1 = -4 | notice 100 = -4 | notice 2147483647 = -4 | undo = 0 | notice 0 = -4");
    }

    private static void count() {
        told("0: the tick", "count 0 = 0 | 11 times tick 99 | count 0 = 1089 | undo = 3 | count 0 = 990");
        told("3: those that have not ended", "start 0 1 | start 3 1 | count 3 = 2 | end 0 | count 3 = 1 | end 1 | count 3 = 0 | count 2 = 2");
        told("6: 1 if there is a snapshot, otherwise 0", "count 6 = 0 | keep | count 6 = 1 | keep | count 6 = 1 | restore | count 6 = 1 | undo = 0 | count 6 = 1");
        told("7: tables that can change, as a set", """
            set 1 8 | count 7 = 63 | start 0 63 = 0 | count 7 = 63 | alter 0 1 | count 7 = 62 | alter 5 1 | count 7 = 30 | alter 1 1 | alter 2 1 | alter 3 1
            alter 4 1 | count 7 = 0 | end 0 | count 7 = 63
            """);
        told("8: loads of all sessions", "start 0 1 | start 1 3 | start 2 7 | start 3 1 | start 3 3 | count 8 = 8 | start 3 3 | count 8 = 8");
        told("20, 21: the settings 0, 1", "set 0 19 | set 1 7 | count 20 = 19 | count 21 = 7 | undo | undo | count 20 = 3 | count 21 = 3");
    }

    private static void would() {
        told("LIMIT_REACHED if it could not start: 4 that have not ended", "4 times start 2 1 | would 2 1 0 = -3 | would 2 1 3 = -3 | would 1 1 1 = 1 | end 1 | would 2 1 0 = 1");
        told("LIMIT_REACHED if it could not start: no room", """
            would 0 15 0 = -3 | would 0 15 1 = -3 | would 0 15 2 = -3 | would 0 15 3 = -3 | start 0 7 = 0 | would 0 8 1 = -3 | would 0 7 0 = 3 | end 0 = 0 | would 0 8 2 = 1
            """);
        told("as if it started now: with what it would learn", """
            start 0 3 = 0 | end 0 = 0 | alter 0 1 | would 0 3 0 = 1 | would 0 3 1 = 1 | would 0 3 2 = 0 | would 0 3 3 = 1 | would 1 3 3 = 1
            sessionOf 0 0 = 0 | sessionOf 0 2 = 2 | entry 0 0 1 = 0 | start 0 3 = 1 | sessionOf 0 5 = 1 | sessionOf 0 6 = 3
            """);
        told("of this statement alone", """
            start 0 7 = 0 | end 0 = 0 | start 0 56 = 1 | end 1 = 0 | start 0 56 = 2 | end 2 = 0 | would 0 7 2 = 3 | would 0 7 1 = 3 | would 0 24 0 = 2 | would 0 24 2 = 0 | would 0 7 3 = 0
            """);
    }

    private static void inTheWay() {
        told("the lowest statement that stands in the way", """
            start 3 1 = 0 | start 1 1 = 1 | start 0 1 = 2 | start 1 1 = 3 | alter 0 1 | inTheWay 0 = 0 | end 0 | inTheWay 0 = 1 | end 1 | inTheWay 0 = 2
            end 2 | inTheWay 0 = 3 | end 3 | inTheWay 0 = -4
            """);
        told("the lowest, also if it is 0", """
            start 0 1 = 0 | start 0 1 = 1 | start 1 1 = 2 | start 3 1 = 3 | alter 0 1 | inTheWay 0 = 0 | end 0 | inTheWay 0 = 1 | end 1 | inTheWay 0 = 2
            """);
        told("the lowest in a place that was used before", """
            start 0 2 = 0 | start 0 1 = 1 | end 0 | start 0 1 = 2 | alter 0 1 | inTheWay 0 = 1 | end 1 | inTheWay 0 = 2
            """);
        told("NOT_FOUND if it can change", "inTheWay 0 = -4 | start 0 1 = 0 | inTheWay 0 = -4 | alter 0 1 | inTheWay 0 = 0 | inTheWay 1 = -4 | inTheWay 5 = -4 | end 0 | inTheWay 0 = -4");
        told("one that works by the version of now does not stand in the way", "start 0 1 = 0 | alter 0 1 | start 0 1 = 1 | inTheWay 0 = 0 | end 0 | count 3 = 1 | inTheWay 0 = -4");
    }

    private static void bestRoom() {
        told("NOT_FOUND if no statement started so far", """
            bestRoom 0 = -4 | bestRoom 1 = -4 | start 0 15 = -3 | bestRoom 0 = -4 | start 0 1 = 0 | bestRoom 0 = 1 | bestRoom 1 = 1 | undo = 0 | bestRoom 0 = -4
            """);
        told("with which all could start", "set 1 8 | start 0 1 = 0 | bestRoom 0 = 1 | start 1 31 = 1 | bestRoom 0 = 5 | bestRoom 1 = 6 | start 2 63 = 2 | bestRoom 0 = 6 | bestRoom 1 = 12");
        told("the least room by which they have the fewest loads", """
            start 0 1 | end 0 | start 0 2 | end 1 | bestRoom 0 = 1 | bestRoom 1 = 2 | start 0 1 | end 2 | bestRoom 0 = 2 | bestRoom 1 = 2
            start 0 4 | end 3 | start 0 1 | bestRoom 0 = 2 | bestRoom 1 = 3 | start 0 2 | bestRoom 0 = 3 | bestRoom 1 = 3
            """);
        told("each in its session", "start 0 1 | start 1 2 | start 0 1 | start 1 2 | bestRoom 0 = 1 | bestRoom 1 = 2");
        told("and ended at once", "4 times start 0 1 | start 1 2 | start 1 4 | start 1 8 | bestRoom 0 = 1 | bestRoom 1 = 4");
        told("ended at once, whatever has not ended now", """
            start 0 32 = 0 | start 1 1 = 1 | end 1 | start 1 2 = 2 | end 2 | start 1 2 | end 3 | start 1 2 | end 4 | start 1 2 | end 5 | start 1 2 | end 6
            start 1 2 | end 7 | start 1 2 | end 8 | start 1 2 | end 9 | start 1 2 | end 10 | start 1 2 | end 11 | start 1 2 = 12
            bestRoom 0 = 1 | bestRoom 1 = 2 | count 3 = 2
            """);
        told("with empty hands at first", "start 0 1 | start 0 1 | start 0 1 | sessionOf 0 2 = 1 | bestRoom 0 = 1 | bestRoom 1 = 1");
        told("and tables that do not change", "start 0 1 | end 0 | alter 0 1 | start 0 1 | bestRoom 0 = 1 | bestRoom 1 = 1 | sessionOf 0 6 = 2 | tableOf 0 0 = 1");
        told("the room that is set does not matter", "start 0 7 | set 1 1 | bestRoom 0 = 3 | set 1 8 | bestRoom 0 = 3 | bestRoom 1 = 3 | count 21 = 8");
        told("as told in 2.: the longest unused goes, of several that of the lowest table", """
            start 0 3 | end 0 | start 0 4 | end 1 | start 0 2 | end 2 | start 0 1 | bestRoom 0 = 3 | bestRoom 1 = 3
            """);
    }

    private static void bestRoomOfTheLatest() {
        told("those that started last, 12 at most: 12 are", TWELVE);
        told("12 at most: the oldest of 13 is not", TWELVE + "start 3 1 = 12 | bestRoom 0 = 1 | bestRoom 1 = 4");
        told("the latest, also when one is taken back", TWELVE + "start 3 1 = 12 | bestRoom 0 = 1 | undo = 3 | bestRoom 0 = 3 | bestRoom 1 = 6 | start 3 32 = 12 | bestRoom 0 = 1 | bestRoom 1 = 5");
        told("the latest, also of a snapshot", TWELVE + "keep | start 3 1 = 12 | end 12 | start 2 8 | bestRoom 1 = 5 | restore | bestRoom 0 = 3 | bestRoom 1 = 6");
        told("the latest of 24 and more", TWELVE + """
            start 0 2 | end 12 | start 0 4 | end 13 | start 0 2 | end 14 | start 0 4 | end 15 | start 0 2 | end 16 | start 0 4 | end 17
            start 0 2 | end 18 | start 0 4 | end 19 | start 0 2 | end 20 | start 0 4 | end 21 | start 0 2 | end 22 | bestRoom 0 = 2 | bestRoom 1 = 3
            start 0 4 = 23 | end 23 | bestRoom 0 = 2 | bestRoom 1 = 2 | start 1 32 = 24 | bestRoom 0 = 2 | bestRoom 1 = 3
            """);
    }

    private static void keepAndRestore() {
        told("in place of the one that was", "tick 5 | keep = 5 | tick 6 | keep = 11 | tick 1 | restore = 11 | undo | restore = 11");
        told("the snapshot, which stays", "keep = 0 | tick 1 | restore = 0 | tick 2 | restore = 0 | tick 3 | restore = 0 | count 6 = 1 | undo = 3 | undo = 2");
        told("what comes after keep is not in it", "start 0 1 | keep | alter 0 1 | end 0 | set 1 1 | restore = 0 | tableOf 0 0 = 0 | statement 0 0 = 0 | count 21 = 3 | count 1 = 0");
        told("what comes after restore is not in it", "start 0 1 | keep | restore | alter 0 1 | end 0 | set 1 1 | restore = 0 | tableOf 0 0 = 0 | statement 0 0 = 0 | count 21 = 3");
        told("NOT_POSSIBLE if there is none", "restore = -2 | tick 1 | restore = -2 | undo | restore = -2 | keep = 0 | restore = 0");
        told("the snapshot of a new object", "keep = 0 | alter 0 1 | start 0 3 | tick 9 | restore = 0 | sessionOf 0 2 = 0 | tableOf 0 1 = 1 | count 2 = 0 | bestRoom 0 = -4 | tick 9 = 0");
    }

    private static void undo() {
        told("Returns the number of states that are left: 0 at last, then NOT_POSSIBLE if it is empty", "undo = -2 | tick 1 | tick 1 | undo = 1 | undo = 0 | undo = -2 | undo = -2 | count 0 = 0");
        told("which is removed from it: what was undone does not come again", "tick 1 | tick 2 | undo = 1 | tick 4 | count 0 = 5 | undo = 1 | count 0 = 1 | undo = 0 | undo = -2");
        told("an undo is no change", "tick 1 | undo = 0 | count 4 = 0 | undo = -2");
        told("what is done after an undo does not alter what the history holds", """
            start 0 1 | tick 1 | start 0 2 | alter 0 1 | undo = 3 | undo = 2 | end 0 = 0 | start 0 4 = 1 | undo = 3 | undo = 2 | count 3 = 1 | statement 0 1 = 1 | entry 0 1 0 = -4
            """);
    }

    private static void typeAndClearText() {
        told("character: 32 to 126", "type 31 = -1 | type 32 = 1 | type 126 = 2 | type 127 = -1 | type -1 = -1 | count 5 = 2");
        told("LIMIT_REACHED if it has 60 characters: 59 are not", "59 times type 120 | count 5 = 59 | type 120 = 60 | type 120 = -3 | type 120 = -3 | count 5 = 60");
        told("Returns the length it had", "clearText = 0 | type 120 | clearText = 1 | clearText = 0 | 60 times type 120 | clearText = 60 | count 5 = 0 | type 120 = 1");
        told("what was cleared is not read again", "text t5;t5; | clearText = 6 | type 116 = 1 | fault 1 = 1 | fault 0 = 0 | type 49 = 2 | type 59 = 3 | play = 1 | count 0 = 1");
    }

    private static void fault() {
        told("NOT_FOUND if the text has no fault", "text t1; | fault 0 = -4 | fault 1 = -4 | fault 2 = -4 | fault 3 = -1 | fault -1 = -1");
        told("(also if it is empty)", "fault 0 = -4 | fault 1 = -4 | fault 2 = -4 | type 120 | fault 0 = 0 | clearText | fault 0 = -4 | fault 1 = -4");
        told("for 2 if its reason is 1", "text x | fault 2 = -4 | fault 1 = 1 | text t0; | fault 2 = -1 | text x | fault 2 = -4");
        told("the position of the last place", "59 times type 120 | clearText | text t1; * 19 | type 120 = 58 | fault 0 = 57 | clearText | text t99;t99;t99;t99;t99;t99;t99;t99;t99;t99;t99;t99;t99;t99;t1;x | fault 0 = 59 | fault 1 = 1");
        told("it tells, and does nothing", "text t9;c0,1;s0,1; | fault 0 = -4 | count 0 = 0 | count 1 = 0 | count 2 = 0 | count 4 = 0 | fault 0 = -4");
    }

    private static void play() {
        told("one change, also if there are none", "play = 0 | count 4 = 1 | play = 0 | count 4 = 2 | undo = 1");
        told("one change of many commands", "text t1; * 20 | play = 20 | count 4 = 1 | count 0 = 20 | undo = 0 | count 0 = 0");
        told("of the text, which stays", "text t1; | play = 1 | play = 1 | count 5 = 3 | count 0 = 2");
        told("NOT_POSSIBLE if it has a fault of the form", "text t1;t1 | play = -2 | count 0 = 0 | count 4 = 0 | count 5 = 5");
        told("NOT_POSSIBLE if it has a fault of another kind, whatever its cause", """
            text t1;t0; | play = -2 | text t1;e0; | play = -2 | text t1;s0,15; | play = -2 | count 0 = 0 | count 4 = 0 | text t1; | play = 1
            """);
        told("in the same way as the calls", """
            set 0 1 | text s1,2;c1,1;t1;s1,2;e0; | play = 5 | sessionOf 1 9 = 0 | sessionOf 1 0 = 1 | sessionOf 1 2 = 1 | entry 1 0 1 = 1 | statement 1 2 = 1
            count 1 = 1 | count 0 = 1 | bestRoom 0 = 1 | bestRoom 1 = 1 | play = -2
            """);
    }
}

/**
 * The sentences of the sections "What it is" and "Terms" of the document, above all those that name a
 * boundary, in their order: each has a run of its own on a new object, which tells it wrong if it does
 * not hold.
 */
public final class TermsTest {
    private static final Checks CHECKS = new Checks("TermsTest");

    private static void told(String sentence, String rows) {
        Rows.check(CHECKS, sentence, rows);
    }

    public static void main(String[] args) {
        calls();
        sets();
        tables();
        notices();
        whatSessionsKnow();
        entries();
        stale();
        room();
        starting();
        whatGoesFirst();
        cannotStart();
        nothingChanges();
        ending();
        late();
        changesOfTables();
        settingTicks();
        settingRoom();
        texts();
        formOfCommands();
        reasonAndCause();
        history();
        historyOverItsEnd();
        ranks();
        CHECKS.close();
    }

    private static void calls() {
        told("An object is used for at most 512 calls: the last is answered as well as the first", """
            511 times tick 1 | count 0 = 511
            """);
        told("at most 512 calls: the last takes one back", """
            510 times tick 1 | count 4 = 4 | undo = 3
            """);
        StringBuilder statements = new StringBuilder();
        for (int i = 0; i < 254; i++) {
            statements.append("start ").append(i % 4).append(' ').append(1 << i % 6).append(" = ").append(i)
                .append(" | end ").append(i).append(" = 0\n");
        }
        told("at most 512 calls: as many statements as they allow", statements + "bestRoom 0 = 1 | bestRoom 1 = 12 | count 2 = 254 | start 3 1 = 254");
        told("at most 512 calls: as many states as they allow", "set 0 0 | 100 times alter 0 1 | 98 times alter 0 1 = -3 | 100 times undo | 99 times alter 0 1 | keep | 99 times restore | 4 times undo | tableOf 0 0");
    }

    private static void sets() {
        told("Sets are told as bits: bit k is for number k, of tables", """
            start 0 1 = 0 | start 0 2 = 1 | start 1 4 = 2 | start 1 8 = 3 | start 2 16 = 4 | start 2 32 = 5
            entry 0 0 0 = 0 | entry 0 1 0 = 1 | entry 1 0 0 = 2 | entry 1 1 0 = 3 | entry 2 0 0 = 4 | entry 2 1 0 = 5
            statement 0 1 = 1 | statement 1 1 = 2 | statement 2 1 = 4 | statement 3 1 = 8 | statement 4 1 = 16 | statement 5 1 = 32
            alter 0 1 | count 7 = 62 | alter 1 1 | count 7 = 60 | alter 2 1 | count 7 = 56 | alter 3 1 | count 7 = 48 | alter 4 1 | count 7 = 32
            alter 5 1 | count 7 = 0
            statement 0 3 = 1 | statement 1 3 = 2 | statement 2 3 = 4 | statement 3 3 = 8 | statement 4 3 = 16 | statement 5 3 = 32
            """);
        told("bit k is for number k, of columns", """
            alter 0 1 | tableOf 0 1 = 3 | alter 1 2 | tableOf 1 1 = 5 | alter 2 3 | tableOf 2 1 = 9 | alter 3 4 | tableOf 3 1 = 17
            alter 4 5 | tableOf 4 1 = 33 | alter 5 6 | tableOf 5 1 = 65 | alter 5 7 | tableOf 5 1 = 193
            """);
        told("a set of several", """
            start 3 38 = 0 | statement 0 1 = 38 | entry 3 0 0 = 1 | entry 3 1 0 = 2 | entry 3 2 0 = 5 | entry 3 3 0 = -4
            alter 1 1 | alter 5 1 | alter 0 1 | statement 0 3 = 34 | count 7 = 29
            """);
    }

    private static void tables() {
        told("There are 6 tables, 0 to 5", """
            tableOf 0 0 = 0 | tableOf 5 0 = 0 | tableOf -1 0 = -1 | tableOf 6 0 = -1
            alter 0 1 = 1 | alter 5 1 = 1 | alter -1 1 = -1 | alter 6 1 = -1
            start 0 1 = 0 | start 0 32 = 1 | start 0 64 = -1
            """);
        told("a set of columns (0 to 7; at first the column 0 alone)", """
            tableOf 0 1 = 1 | tableOf 1 1 = 1 | tableOf 2 1 = 1 | tableOf 3 1 = 1 | tableOf 4 1 = 1 | tableOf 5 1 = 1
            alter 3 7 = 1 | tableOf 3 1 = 129 | alter 3 0 = 2 | tableOf 3 1 = 128 | alter 3 8 = -1 | alter 3 -1 = -1
            """);
        told("all 8 columns are a shape", """
            alter 1 1 = 1 | alter 1 2 = 2 | alter 1 3 = 3 | alter 1 4 = 4 | alter 1 5 = 5 | alter 1 6 = 6 | alter 1 7 = 7
            tableOf 1 1 = 255 | alter 1 0 = 8 | tableOf 1 1 = 254
            """);
        told("and a version (0 at first)", """
            tableOf 0 0 = 0 | tableOf 1 0 = 0 | tableOf 2 0 = 0 | tableOf 3 0 = 0 | tableOf 4 0 = 0 | tableOf 5 0 = 0
            """);
        told("its version is 1 more then, and that of no other", """
            alter 2 5 = 1 | alter 2 5 = 2 | tableOf 2 0 = 2 | tableOf 2 1 = 1 | tableOf 1 0 = 0 | tableOf 3 0 = 0
            """);
    }

    private static void notices() {
        told("a notice goes out, which tells the table", """
            alter 3 1 = 1 | count 1 = 1 | notice 0 = 3 | alter 0 5 = 1 | alter 1 5 = 1 | alter 2 5 = 1 | alter 4 5 = 1 | alter 5 5 = 1 | alter 3 1 = 2
            count 1 = 7 | notice 0 = 3 | notice 1 = 0 | notice 2 = 1 | notice 3 = 2 | notice 4 = 4 | notice 5 = 5 | notice 6 = 3 | notice 7 = -4
            """);
        told("none goes out if the table does not change", "alter 3 0 = -2 | alter 6 0 = -1 | count 1 = 0 | notice 0 = -4 | tick 99 = 0");
        told("Notices are numbered from 0", "notice 0 = -4 | alter 5 1 | notice 0 = 5 | notice 1 = -4");
        told("in the order in which they went out, not in which they come", """
            set 0 20 | alter 5 1 | set 0 0 | alter 4 1 | set 0 2 | alter 3 1 | tick 2 = 4
            notice 0 = 5 | notice 1 = 4 | notice 2 = 3 | notice 3 = -4
            """);
        told("comes setting 0 ticks after it went out, 3 at first", """
            alter 0 1 | tick 2 = 0 | sessionOf 0 0 = 0 | sessionOf 0 1 = 1
            tick 1 = 4 | sessionOf 0 0 = 1 | sessionOf 3 0 = 1 | sessionOf 0 1 = 0 | tick 99 = 0
            """);
        told("setting 0 is 1", """
            set 0 1 | alter 0 1 | sessionOf 0 0 = 0 | sessionOf 0 1 = 1 | tick 1 = 4 | sessionOf 0 0 = 1 | tick 1 = 0
            """);
        told("setting 0 is 20", "set 0 20 | alter 0 1 | tick 19 = 0 | sessionOf 0 1 = 1 | tick 1 = 4 | tick 99 = 0");
        told("setting 0 is 20, in one call of just so many ticks", "set 0 20 | alter 0 1 | tick 20 = 4 | tick 1 = 0");
        told("setting 0 is 20, in one call of the most ticks", "set 0 20 | alter 0 1 | tick 99 = 4 | sessionOf 2 0 = 1");
        told("at once, if that is 0", """
            set 0 0 | alter 0 1 | sessionOf 0 0 = 1 | sessionOf 1 0 = 1 | sessionOf 2 0 = 1 | sessionOf 3 0 = 1
            sessionOf 0 1 = 0 | sessionOf 0 9 = 0 | tick 99 = 0
            """);
    }

    private static void whatSessionsKnow() {
        told("There are 4 sessions, 0 to 3", """
            sessionOf 0 0 = 0 | sessionOf 3 0 = 0 | sessionOf -1 0 = -1 | sessionOf 4 0 = -1
            start 0 1 = 0 | start 3 1 = 1 | start -1 1 = -1 | start 4 1 = -1
            """);
        told("none at first", "sessionOf 0 0 = 0 | sessionOf 1 0 = 0 | sessionOf 2 0 = 0 | sessionOf 3 0 = 0");
        told("of all those that have come to it, and all ahead of these (also if a later one comes ahead)", """
            start 0 1 = 0 | end 0 = 0 | set 0 9 = 3 | alter 0 1 = 1 | set 0 1 = 9 | alter 1 1 = 1
            sessionOf 0 0 = 0 | sessionOf 0 2 = 1 | tick 1 = 4 | sessionOf 0 0 = 2 | sessionOf 3 0 = 2
            sessionOf 0 2 = 0 | sessionOf 0 1 = 1 | sessionOf 0 9 = 0
            tick 7 = 0 | tick 1 = 4 | sessionOf 0 9 = 1 | sessionOf 3 9 = 1 | sessionOf 0 0 = 2
            """);
        told("a later one that comes at once comes ahead of an earlier one, too", """
            start 2 1 = 0 | end 0 = 0 | alter 0 1 = 1 | sessionOf 2 2 = 1 | set 0 0 = 3 | alter 5 1 = 1
            sessionOf 2 0 = 2 | sessionOf 2 2 = 0 | sessionOf 2 1 = 1 | tick 3 = 4 | sessionOf 2 9 = 1 | sessionOf 2 0 = 2
            """);
        told("but of none behind these", """
            set 0 1 | alter 0 1 | set 0 2 | alter 1 1 | tick 1 = 4 | sessionOf 1 0 = 1 | tick 1 = 4 | sessionOf 1 0 = 2
            """);
    }

    private static void entries() {
        told("each is a table, a version, the shape of that version: it stays as it was when the table changes", """
            alter 4 7 = 1 | alter 4 2 = 2 | start 1 16 = 0 | entry 1 0 0 = 4 | entry 1 0 1 = 2 | entry 1 0 2 = 133 | alter 4 0 = 3 | tick 3
            entry 1 0 0 = 4 | entry 1 0 1 = 2 | entry 1 0 2 = 133 | tableOf 4 1 = 132 | start 1 16 = 1 | entry 1 1 1 = 3 | entry 1 1 2 = 132
            entry 1 0 2 = 133
            """);
        told("how many statements work by it", """
            start 1 3 = 0 | entry 1 0 3 = 1 | start 1 1 = 1 | start 1 1 = 2 | start 1 3 = 3 | entry 1 0 3 = 4 | entry 1 1 3 = 2 | start 2 1 = 4
            entry 1 0 3 = 4 | end 3 = 0 | entry 1 0 3 = 3 | entry 1 1 3 = 1 | end 0 | end 1 | end 2 | entry 1 0 3 = 0 | entry 1 1 3 = 0 | entry 2 0 3 = 1
            """);
        told("when it was used last (the number of the statement)", """
            start 0 2 = 0 | start 1 3 = 1 | entry 1 0 4 = 1 | entry 1 1 4 = 1 | tick 9 | start 0 1 = 2 | start 1 2 = 3 | entry 1 0 4 = 1 | entry 1 1 4 = 3
            end 3 | end 1 | entry 1 0 4 = 1 | entry 1 1 4 = 3
            """);
        told("and whether it is stale", "start 1 3 = 0 | alter 1 1 = 1 | entry 1 1 5 = 0 | tick 3 = 4 | entry 1 0 5 = 0 | entry 1 1 5 = 1");
    }

    private static void stale() {
        told("each entry of this table with an older version than the table has now is stale", """
            start 1 6 = 0 | alter 1 1 = 1 | tick 2 = 0 | entry 1 0 5 = 0 | tick 1 = 4
            entry 1 0 5 = 1 | entry 1 1 5 = 0 | sessionOf 1 3 = 1
            """);
        told("an entry with the version that the table has now is not", """
            alter 0 1 = 1 | start 0 1 = 0 | tick 3 = 4 | sessionOf 0 9 = 1 | entry 0 0 1 = 1 | entry 0 0 5 = 0
            """);
        told("older than the table has now, not than the notice told", """
            alter 0 1 = 1 | start 0 1 = 0 | end 0 = 0 | tick 1 = 0 | alter 0 2 = 2 | alter 0 3 = 3
            tick 2 = 4 | sessionOf 0 9 = 1 | sessionOf 0 2 = 1 | entry 0 0 5 = 0 | tick 1 = 8 | sessionOf 0 2 = 0
            """);
        told("when it learns of it: one who has not learned keeps the entry as it was", """
            set 0 20 | start 0 1 = 0 | start 1 1 = 1 | alter 0 1 = 1 | start 0 2 = 2
            entry 0 0 5 = 1 | entry 1 0 5 = 0 | sessionOf 0 3 = 1 | sessionOf 1 3 = 0
            """);
        told("stale and without a statement: it goes at once, by a notice", """
            start 2 1 = 0 | end 0 = 0 | alter 0 1 = 1 | sessionOf 2 2 = 1 | tick 3 = 4 | sessionOf 2 2 = 0 | sessionOf 2 7 = 0
            """);
        told("it goes at once, by an ask", """
            start 2 1 = 0 | end 0 = 0 | alter 0 1 = 1 | start 2 2 = 1 | sessionOf 2 2 = 1 | entry 2 0 0 = 1 | sessionOf 2 7 = 0
            """);
        told("what comes in place of one that went is not stale", """
            start 2 1 = 0 | end 0 = 0 | alter 0 1 = 1 | start 2 3 = 1 | sessionOf 2 3 = 0 | entry 2 0 5 = 0 | entry 2 1 5 = 0 | end 1 = 0
            sessionOf 2 2 = 2 | start 2 1 = 2 | sessionOf 2 5 = 1
            """);
        told("it goes at once, by an end, of the last statement by it alone", """
            start 2 1 = 0 | start 2 1 = 1 | alter 0 1 = 1 | tick 3 = 4 | sessionOf 2 3 = 1
            end 0 = 0 | sessionOf 2 2 = 1 | sessionOf 2 3 = 1 | end 1 = 1 | sessionOf 2 2 = 0 | sessionOf 2 3 = 0
            """);
    }

    private static void room() {
        told("at most setting 1 of them, 3 at first", """
            start 0 7 = 0 | sessionOf 0 2 = 3 | start 0 8 = -3 | end 0 = 0 | start 0 8 = 1 | sessionOf 0 2 = 3 | start 1 15 = -3
            """);
        told("the room is 1", "set 1 1 | start 0 1 = 0 | start 0 2 = -3 | end 0 = 0 | start 0 2 = 1 | sessionOf 0 2 = 1 | start 1 3 = -3");
        told("the room is 8: 6 tables and 2 stale ones fill it", """
            set 1 8 | set 0 0 | start 0 63 = 0 | alter 0 1 = 1 | alter 1 1 = 1 | start 0 3 = 1 | sessionOf 0 2 = 8
            sessionOf 0 3 = 2 | alter 2 1 = 1 | would 0 4 1 = -3 | start 0 4 = -3 | start 0 56 = 2 | entry 0 7 0 = 5 | entry 0 8 0 = -4
            end 0 = 3 | sessionOf 0 2 = 5 | sessionOf 0 7 = 0 | start 0 4 = 3 | sessionOf 0 2 = 6
            """);
        told("a stale one in the hand takes room", """
            set 0 0 | set 1 2 | start 0 1 = 0 | alter 0 1 = 1 | start 0 1 = 1 | sessionOf 0 2 = 2 | start 0 2 = -3
            end 0 = 1 | start 0 2 = 2 | sessionOf 0 2 = 2
            """);
    }

    private static void starting() {
        told("numbered from 0, over all sessions", "start 3 1 = 0 | start 0 1 = 1 | start 2 1 = 2 | end 1 = 0 | start 1 1 = 3");
        told("one that does not start takes no number", "start 0 0 = -1 | start 0 15 = -3 | start 4 1 = -1 | start 0 1 = 0");
        told("a set that is not empty", "start 0 0 = -1 | would 0 0 0 = -1 | start 0 1 = 0");
        told("if it knows of fewer: it knows of all of none", "start 0 1 = 0 | sessionOf 0 8 = 0 | sessionOf 0 0 = 0");
        told("if it knows of fewer: it knows of all by a notice that came", """
            alter 0 1 = 1 | tick 3 = 4 | start 0 1 = 0 | sessionOf 0 8 = 0
            """);
        told("if it knows of fewer: it knows of all by an ask", """
            alter 0 1 = 1 | start 0 1 = 0 | sessionOf 0 8 = 1 | start 0 1 = 1 | sessionOf 0 8 = 1
            """);
        told("if it knows of fewer: it knows of all but one", """
            alter 0 1 = 1 | tick 3 = 4 | alter 1 1 = 1 | would 0 1 3 = 1 | start 0 1 = 0 | sessionOf 0 8 = 1 | sessionOf 0 0 = 2
            """);
        told("an ask that learns of several is one ask", """
            alter 0 1 = 1 | alter 0 2 = 2 | alter 0 3 = 3 | would 0 1 3 = 3 | start 0 1 = 0 | sessionOf 0 8 = 1 | sessionOf 0 0 = 3
            """);
        told("the entry of this table that is not stale is used (a hit)", """
            start 0 1 = 0 | sessionOf 0 5 = 0 | sessionOf 0 6 = 1 | alter 0 1 = 1 | start 0 1 = 1 | sessionOf 0 5 = 0
            sessionOf 0 6 = 2 | start 0 1 = 2 | sessionOf 0 5 = 1 | sessionOf 0 6 = 2
            entry 0 0 1 = 0 | entry 0 0 3 = 1 | entry 0 1 1 = 1 | entry 0 1 3 = 2
            """);
        told("used last by this statement, and one statement more works by it", """
            start 0 3 = 0 | start 0 1 = 1 | entry 0 0 3 = 2 | entry 0 0 4 = 1 | entry 0 1 3 = 1 | entry 0 1 4 = 0
            """);
    }

    private static void whatGoesFirst() {
        told("if the hand is full: one less than full drops nothing", """
            start 0 3 = 0 | end 0 = 0 | start 0 4 = 1 | sessionOf 0 7 = 0 | sessionOf 0 2 = 3
            """);
        told("if the hand is full: a hit drops nothing", "start 0 7 = 0 | end 0 = 0 | start 0 7 = 1 | sessionOf 0 7 = 0 | sessionOf 0 5 = 3");
        told("the entry which was used longest ago goes first", """
            start 0 4 = 0 | start 0 1 = 1 | start 0 2 = 2 | end 0 = 0 | end 1 = 0 | end 2 = 0
            start 0 8 = 3 | entry 0 0 0 = 0 | entry 0 1 0 = 1 | entry 0 2 0 = 3 | sessionOf 0 7 = 1
            """);
        told("used longest ago: a use puts it off", """
            start 0 1 = 0 | end 0 = 0 | start 0 2 = 1 | end 1 = 0 | start 0 1 = 2 | end 2 = 0 | start 0 4 = 3 | end 3 = 0
            start 0 8 = 4 | entry 0 0 0 = 0 | entry 0 1 0 = 2 | entry 0 2 0 = 3
            """);
        told("used longest ago, not ended longest ago", """
            start 0 1 = 0 | start 0 2 = 1 | start 0 4 = 2 | end 2 = 0 | end 1 = 0 | end 0 = 0
            start 0 8 = 3 | entry 0 0 0 = 1 | entry 0 1 0 = 2
            """);
        told("of several that of the lowest table", """
            start 0 38 = 0 | end 0 = 0 | start 0 8 = 1 | entry 0 0 0 = 2 | entry 0 1 0 = 3 | entry 0 2 0 = 5
            start 0 16 = 2 | entry 0 0 0 = 3 | entry 0 1 0 = 4 | entry 0 2 0 = 5 | sessionOf 0 7 = 2
            """);
        told("one by which a statement works does not go", """
            start 0 1 = 0 | start 0 2 = 1 | end 1 = 0 | start 0 4 = 2 | end 2 = 0 | start 0 8 = 3
            entry 0 0 0 = 0 | entry 0 1 0 = 2 | entry 0 2 0 = 3
            """);
        told("from the lowest table on: what this statement uses stays, what it would use may go", """
            set 1 2 | start 0 6 = 0 | end 0 = 0 | start 0 3 = 1 | sessionOf 0 5 = 0 | sessionOf 0 6 = 4 | sessionOf 0 7 = 2
            entry 0 0 0 = 0 | entry 0 1 0 = 1 | start 0 7 = -3
            """);
        told("the hands of others stay as they are", """
            start 1 7 = 0 | end 0 = 0 | start 0 7 = 1 | end 1 = 0 | start 0 56 = 2 | sessionOf 0 7 = 3 | sessionOf 1 7 = 0 | sessionOf 1 2 = 3
            """);
    }

    private static void cannotStart() {
        told("4 statements of a session that have not ended", """
            3 times start 0 1 | start 0 1 = 3 | start 0 1 = -3 | would 0 1 0 = -3 | sessionOf 0 4 = 4
            end 3 = 0 | would 0 1 0 = 1 | start 0 1 = 4 | start 0 1 = -3 | end 0 = 0 | start 0 1 = 5
            """);
        told("4 of each session, 16 in all", """
            4 times start 0 1 | start 0 1 = -3 | start 1 1 = 4 | 3 times start 1 1 | start 1 1 = -3 | 4 times start 2 1
            start 2 1 = -3 | 3 times start 3 1 | start 3 1 = 15 | start 3 1 = -3 | count 3 = 16 | count 2 = 16
            """);
        told("a full hand in which a statement works by each entry", """
            set 1 2 | start 0 3 = 0 | start 0 4 = -3 | start 0 3 = 1 | start 0 6 = -3 | start 0 2 = 2
            end 0 = 0 | start 0 4 = -3 | end 1 = 0 | start 0 4 = 3 | entry 0 0 0 = 1 | entry 0 1 0 = 2
            """);
        told("a statement for which there is no room even in an empty hand", """
            start 0 15 = -3 | start 0 7 = 0 | set 1 5 | start 1 63 = -3 | set 1 6 | start 1 63 = 1 | sessionOf 1 7 = 0
            """);
        told("an entry would have to come: a hit needs none, also in a hand over its room", """
            start 0 7 = 0 | set 1 1 | start 0 7 = 1 | start 0 8 = -3 | start 0 9 = -3 | start 0 4 = 2 | sessionOf 0 2 = 3
            """);
        told("a stale entry by which a statement works fills the hand, and is no hit", """
            set 1 1 | start 0 1 = 0 | alter 0 1 = 1 | start 0 1 = -3 | would 0 1 0 = -3 | tick 3 = 4 | start 0 1 = -3
            end 0 = 1 | start 0 1 = 1 | entry 0 0 1 = 1
            """);
    }

    private static void nothingChanges() {
        told("then nothing changes, also what 1. brought: what it learned, and the ask", """
            set 1 1 | start 0 1 = 0 | alter 1 1 = 1 | alter 0 1 = 1 | start 0 2 = -3 | sessionOf 0 0 = 0 | sessionOf 0 8 = 0
            entry 0 0 5 = 0 | sessionOf 0 3 = 0 | would 0 1 3 = -3 | end 0 = 0 | would 0 1 3 = 2 | tick 3 = 8 | sessionOf 0 9 = 0
            """);
        told("nothing changes: a stale entry that went is there again", """
            set 1 2 | start 0 1 = 0 | start 0 2 = 1 | end 0 = 0 | alter 0 1 = 1 | start 0 28 = -3 | sessionOf 0 2 = 2
            entry 0 0 0 = 0 | entry 0 0 1 = 0 | entry 0 0 5 = 0 | sessionOf 0 6 = 2 | sessionOf 0 0 = 0 | sessionOf 0 8 = 0
            """);
        told("nothing changes: hits, loads, drops and uses of the lower tables", """
            start 0 1 = 0 | start 0 2 = 1 | start 0 4 = 2 | end 0 = 0 | end 1 = 0 | start 0 57 = -3
            sessionOf 0 5 = 0 | sessionOf 0 6 = 3 | sessionOf 0 7 = 0 | entry 0 0 0 = 0 | entry 0 0 3 = 0 | entry 0 0 4 = 0
            entry 0 1 0 = 1 | entry 0 2 0 = 2 | sessionOf 0 4 = 1 | count 2 = 3 | start 0 57 = -3 | start 0 1 = 3
            """);
        told("nothing changes, with 4 that have not ended", """
            4 times start 0 1 | alter 0 1 = 1 | start 0 2 = -3 | sessionOf 0 0 = 0 | sessionOf 0 8 = 0 | entry 0 0 5 = 0 | count 4 = 4 | undo = 3
            """);
    }

    private static void ending() {
        told("one less works by each of its entries, and by no other", """
            start 0 3 = 0 | start 0 6 = 1 | end 0 = 0 | entry 0 0 3 = 0 | entry 0 1 3 = 1 | entry 0 2 3 = 1 | end 1 = 0 | entry 0 1 3 = 0
            """);
        told("its entries are those of the version by which it works", """
            set 0 0 | start 0 1 = 0 | alter 0 1 = 1 | start 0 1 = 1 | end 1 = 0 | entry 0 0 1 = 0 | entry 0 0 3 = 1
            entry 0 1 1 = 1 | entry 0 1 3 = 0 | end 0 = 1 | entry 0 0 1 = 1 | entry 0 1 1 = -4
            """);
        told("if its hand has more entries than there is room for: just as many stay", """
            start 0 7 = 0 | start 0 1 = 1 | end 0 = 0 | sessionOf 0 2 = 3 | end 1 = 0 | sessionOf 0 2 = 3 | sessionOf 0 7 = 0
            """);
        told("until no more than the room are left", """
            start 0 7 = 0 | set 1 2 = 3 | sessionOf 0 2 = 3 | end 0 = 1 | sessionOf 0 2 = 2 | entry 0 0 0 = 1 | sessionOf 0 7 = 1
            """);
        told("or a statement works by each one that is left", """
            start 0 7 = 0 | start 0 6 = 1 | set 1 1 = 3 | end 0 = 1 | sessionOf 0 2 = 2 | sessionOf 0 7 = 1
            end 1 = 1 | entry 0 0 0 = 2 | sessionOf 0 2 = 1 | sessionOf 0 7 = 2
            """);
        told("as told in 2.: the longest unused go, not the lowest", """
            start 0 4 = 0 | start 0 3 = 1 | start 0 2 = 2 | set 1 2 | end 1 = 1 | entry 0 0 0 = 1 | entry 0 1 0 = 2
            set 1 1 | sessionOf 0 2 = 2 | end 2 = 1 | entry 0 0 0 = 2 | end 0 = 0
            """);
        told("one that goes as stale leaves room, and is no drop", """
            set 0 0 | start 0 7 = 0 | alter 0 1 = 1 | set 1 2 | end 0 = 1 | sessionOf 0 2 = 2 | sessionOf 0 7 = 0
            """);
        told("its hand alone: those of others stay", """
            set 1 4 | start 0 7 = 0 | start 1 7 = 1 | set 1 2 | end 0 = 1 | sessionOf 1 2 = 3 | sessionOf 1 7 = 0 | end 1 = 1
            """);
    }

    private static void late() {
        told("a notice that comes to a session that knows of it already is a late one", """
            alter 0 1 | start 0 1 = 0 | tick 2 = 0 | sessionOf 0 9 = 0 | tick 1 = 4 | sessionOf 0 9 = 1
            sessionOf 1 9 = 0 | sessionOf 2 9 = 0 | sessionOf 3 9 = 0 | tick 99 = 0 | sessionOf 0 9 = 1
            """);
        told("one that comes at once is not late", "set 0 0 | alter 0 1 | sessionOf 0 9 = 0 | start 0 1 | alter 0 2 | sessionOf 0 9 = 0");
        told("one that comes ahead of an earlier one is not late, the earlier one is", """
            alter 0 1 | set 0 1 | alter 1 1 | tick 1 = 4 | sessionOf 3 9 = 0 | tick 2 = 4 | sessionOf 3 9 = 1
            """);
        told("two that come in the same tick, the earlier one first", "alter 0 1 | alter 1 1 | tick 3 = 8 | sessionOf 0 9 = 0 | sessionOf 0 0 = 2");
        told("in the same tick, though they took not as long", """
            alter 0 1 | tick 2 = 0 | set 0 1 | alter 1 1 | tick 1 = 8 | sessionOf 0 9 = 0 | sessionOf 0 0 = 2
            """);
    }

    private static void changesOfTables() {
        told("a version below that which the table has now: the same is not below", """
            start 3 1 = 0 | tableOf 0 4 = 1 | inTheWay 0 = -4 | alter 0 1 = 1
            tableOf 0 4 = 0 | inTheWay 0 = 0 | count 7 = 62 | alter 0 2 = -2 | end 0 = 0 | alter 0 2 = 2
            """);
        told("in some session: each of them", """
            start 0 1 = 0 | start 1 2 = 1 | start 2 4 = 2 | start 3 8 = 3 | count 7 = 63
            alter 0 1 | alter 1 1 | alter 2 1 | alter 3 1 | alter 0 2 = -2 | alter 1 2 = -2 | alter 2 2 = -2 | alter 3 2 = -2 | count 7 = 48
            """);
        told("an entry by which no statement works is not in the way", """
            start 0 1 = 0 | end 0 = 0 | alter 0 1 = 1 | sessionOf 0 2 = 1 | alter 0 2 = 2 | alter 0 3 = 3 | count 7 = 63
            """);
        told("a statement that works by another table's older version is not in the way", """
            start 0 2 = 0 | alter 1 1 = 1 | alter 1 2 = -2 | alter 0 1 = 1 | alter 0 2 = 2 | count 7 = 61
            """);
        told("so statements work by two versions of a table at most", """
            start 0 1 = 0 | alter 0 1 = 1 | start 1 1 = 1 | alter 0 2 = -2 | end 0 = 0 | alter 0 2 = 2 | start 2 1 = 2
            alter 0 3 = -2 | tableOf 0 2 = 1 | inTheWay 0 = 1 | end 1 = 0 | tableOf 0 2 = 2 | alter 0 3 = 3
            """);
    }

    private static void settingTicks() {
        told("0 the ticks of a notice (0 to 20; 3)", """
            count 20 = 3 | set 0 0 = 3 | set 0 20 = 0 | set 0 -1 = -1 | set 0 21 = -1 | set 0 -2147483648 = -1 | set 0 2147483647 = -1
            count 20 = 20 | count 21 = 3
            """);
        told("for those that go out then", """
            alter 0 1 | set 0 20 | tick 3 = 4 | alter 1 1 | set 0 0 | sessionOf 0 0 = 1 | tick 19 = 0 | tick 1 = 4
            """);
    }

    private static void settingRoom() {
        told("1 the room of a hand (1 to 8; 3)", """
            count 21 = 3 | set 1 1 = 3 | set 1 8 = 1 | set 1 0 = -1 | set 1 9 = -1 | set 1 -2147483648 = -1 | set 1 2147483647 = -1
            count 21 = 8 | count 20 = 3
            """);
        told("if it becomes less, entries go until no more than this are left", """
            start 0 7 = 0 | end 0 = 0 | start 3 6 = 1 | end 1 = 0 | set 1 2 = 3 | sessionOf 0 2 = 2 | sessionOf 3 2 = 2
            entry 0 0 0 = 1 | sessionOf 0 7 = 1 | sessionOf 3 7 = 0 | set 1 1 = 2 | sessionOf 0 2 = 1 | sessionOf 3 2 = 1
            entry 0 0 0 = 2 | entry 3 0 0 = 2 | sessionOf 0 7 = 2 | sessionOf 3 7 = 1
            """);
        told("just as many as are in the hand stay", """
            start 0 3 = 0 | end 0 = 0 | set 1 2 = 3 | sessionOf 0 2 = 2 | sessionOf 0 7 = 0 | set 1 2 = 2 | sessionOf 0 2 = 2
            """);
        told("or a statement works by each one that is left", """
            start 0 3 = 0 | start 0 4 = 1 | end 0 = 0 | set 1 1 = 3 | sessionOf 0 2 = 1 | entry 0 0 0 = 2 | sessionOf 0 7 = 2
            """);
        told("they stay, then, as long as that is so", """
            start 0 7 = 0 | set 1 1 = 3 | sessionOf 0 2 = 3 | sessionOf 0 7 = 0 | start 0 4 = 1 | sessionOf 0 2 = 3
            end 0 = 2 | sessionOf 0 2 = 1 | entry 0 0 0 = 2 | sessionOf 0 7 = 2 | end 1 = 0 | sessionOf 0 2 = 1
            """);
        told("if it becomes more, nothing goes", """
            start 0 7 = 0 | set 1 1 = 3 | set 1 2 = 1 | sessionOf 0 2 = 3 | set 1 4 = 2 | end 0 = 0 | start 0 8 = 1 | sessionOf 0 2 = 4
            """);
        told("as told in 2., the longest unused first", """
            start 0 4 = 0 | end 0 = 0 | start 0 1 = 1 | end 1 = 0 | start 0 2 = 2 | end 2 = 0 | set 1 2 = 3
            entry 0 0 0 = 0 | entry 0 1 0 = 1 | set 1 1 = 2 | entry 0 0 0 = 1
            """);
    }

    private static void texts() {
        told("at most 60 characters", "text t1; * 20 | count 5 = 60 | type 116 = -3 | count 5 = 60 | play = 20 | count 0 = 20");
        told("initially empty", "count 5 = 0 | clearText = 0 | play = 0 | fault 0 = -4");
        told("numbers of one to three digits, 0 ahead allowed", """
            text t1;t01;t001;t9;t99;t099; | fault 0 = -4 | play = 6 | count 0 = 210
            text c5,7;c05,07;c005,007; | play = 3 | tableOf 5 0 = 3
            text s0,1;s00,01;s000,001;e0;e01;e002; | play = 6 | count 2 = 3 | count 3 = 0
            """);
        told("a number of no digit", "text t; | fault 1 = 1 | text c,1; | fault 1 = 1 | text c1,; | fault 1 = 1 | text e; | fault 1 = 1 | text s,; | fault 1 = 1");
        told("a number of four digits", """
            text t0001; | fault 1 = 1 | text e0000; | fault 1 = 1 | text c0000,1; | fault 1 = 1 | text c0,0001; | fault 1 = 1
            text s0000,1; | fault 1 = 1 | text s0,0001; | fault 1 = 1
            """);
    }

    private static void formOfCommands() {
        told("of one letter, small, and no other", """
            text T1; | fault 1 = 1 | text C1,1; | fault 1 = 1 | text S1,1; | fault 1 = 1 | text E0; | fault 1 = 1 | text tt1; | fault 1 = 1
            text a1; | fault 1 = 1 | text b1,1; | fault 1 = 1 | text d1,1; | fault 1 = 1 | text 1; | fault 1 = 1 | text ; | fault 1 = 1
            """);
        told("the digits are 0 to 9", """
            text t0; | fault 1 = 2 | text t9; | fault 1 = -4 | text t/; | fault 1 = 1 | text t:; | fault 1 = 1 | text t-1; | fault 1 = 1 | text t+1; | fault 1 = 1
            """);
        told("numbers with , between two: as many as the letter asks", """
            text c1; | fault 1 = 1 | text s1; | fault 1 = 1 | text e0,1; | fault 1 = 1 | text t1,1; | fault 1 = 1
            text c1,1,1; | fault 1 = 1 | text s1,1,1; | fault 1 = 1 | text c1;1; | fault 1 = 1 | text c1.1; | fault 1 = 1
            """);
        told("each followed by ;, the last one too", """
            text t1;t1 | fault 0 = 3 | fault 1 = 1 | text c1,1 | fault 0 = 0 | text t1t1; | fault 0 = 0 | fault 1 = 1 | text t1: | fault 1 = 1
            text s0,1e0; | fault 0 = 0 | text t1;; | fault 0 = 3 | fault 1 = 1
            """);
        told("what was typed before does not count", """
            text t1; | clearText = 3 | type 116 = 1 | type 49 = 2 | fault 1 = 1 | play = -2 | type 59 = 3 | play = 1
            text c1,; | fault 1 = 1 | text t1; | fault 1 = -4 | text e,; | fault 1 = 1 | text s0,1; | fault 1 = -4
            """);
        told("a space is of no command", """
            type 32 = 1 | fault 0 = 0 | fault 1 = 1 | clearText = 1 | text t1; | type 32 = 4 | fault 0 = 3 | fault 1 = 1
            text t 1; | fault 1 = 1 | text c1, 1; | fault 1 = 1
            """);
        told("the last character that has room ends the last command", """
            text t1;t1;t1;t1;t1;t1;t1;t1;t1;t1;t1;t1;t1;t1;t1;t1;t1;t1;t1;t1; | count 5 = 60 | fault 0 = -4 | play = 20 | count 0 = 20
            """);
        told("60 characters, and the last ; has no room", """
            text t1;t1;t1;t1;t1;t1;t1;t1;t1;t1;t1;t1;t1;t1;t1;t1;t1;t1;t1;t11 | count 5 = 60 | type 59 = -3 | fault 0 = 57 | fault 1 = 1 | play = -2
            """);
    }

    private static void reasonAndCause() {
        told("the first character of the first command that is not possible", """
            text t0;t0; | fault 0 = 0 | text t1;t0;t0; | fault 0 = 3 | text t1;c0,1;e7;x | fault 0 = 8 | fault 1 = 2 | text x;t0; | fault 0 = 0 | fault 1 = 1
            """);
        told("when those ahead of it are done", """
            text e0;s0,1; | fault 0 = 0 | fault 2 = -2 | text s0,1;e0; | fault 0 = -4 | text s0,1;e0;e0; | fault 0 = 8
            text s0,1;c0,1;c0,2; | fault 0 = 10 | fault 2 = -2 | text s0,1;c0,1;e0;c0,2; | fault 0 = -4 | text c0,1;c0,0;c0,1; | fault 0 = 10
            """);
        told("they are done on the state as it is when it is asked", """
            text e0; | fault 0 = 0 | start 0 1 = 0 | fault 0 = -4 | end 0 = 0 | fault 0 = 0 | undo = 1 | fault 0 = -4
            """);
        told("its cause is INVALID_ARGUMENT", """
            text c6,1; | fault 2 = -1 | text c999,1; | fault 2 = -1 | text c1,8; | fault 2 = -1 | text s4,1; | fault 2 = -1
            text s0,0; | fault 2 = -1 | text s0,64; | fault 2 = -1 | text t0; | fault 2 = -1 | text t100; | fault 2 = -1 | fault 1 = 2
            """);
        told("its cause is NOT_POSSIBLE", "text c1,0; | fault 2 = -2 | text e0; | fault 2 = -2 | text e999; | fault 2 = -2 | fault 1 = 2 | fault 0 = 0");
        told("its cause is LIMIT_REACHED", """
            text s0,15; | fault 2 = -3 | text s0,1;s0,1;s0,1;s0,1;s0,1; | fault 0 = 20 | fault 1 = 2 | fault 2 = -3
            text c0,1; * 12 | 8 times play = 12 | text c0,1;c0,1;c0,1;c0,1; | fault 0 = -4 | type 99 = 21 | fault 0 = 20 | fault 1 = 1
            type 49 = 22 | type 44 = 23 | type 49 = 24 | type 59 = 25 | fault 0 = 20 | fault 1 = 2 | fault 2 = -3
            """);
        told("a reason of 1 has no cause", "text t1;x | fault 0 = 3 | fault 1 = 1 | fault 2 = -4");
    }

    private static void history() {
        told("the changes are these calls", """
            count 4 = 0 | alter 0 1 = 1 | count 4 = 1 | start 0 1 = 0 | count 4 = 2 | end 0 = 0 | count 4 = 3 | tick 1 = 0 | count 4 = 4
            2 times undo | count 4 = 2 | set 0 3 = 3 | count 4 = 3 | keep = 0 | restore = 0 | count 4 = 4
            4 times undo | count 4 = 0 | play = 0 | count 4 = 1
            """);
        told("no other call is one", """
            tick 1 | keep = 1 | type 116 | clearText | fault 0 | would 0 1 0 | bestRoom 0 | inTheWay 0 | tableOf 0 0 | sessionOf 0 0
            entry 0 0 0 | statement 0 0 | notice 0 | count 0 | count 4 = 1 | undo = 0 | count 4 = 0 | undo = -2
            """);
        told("that return no error", """
            alter 6 0 = -1 | alter 0 0 = -2 | start 4 1 = -1 | start 0 15 = -3 | end -1 = -1 | end 0 = -2 | tick 0 = -1 | set 2 0 = -1
            set 1 9 = -1 | restore = -2 | undo = -2 | text t0; | play = -2 | text t | play = -2 | count 4 = 0
            """);
        told("a change that alters nothing is one, too", "set 1 3 = 3 | set 1 3 = 3 | play = 0 | count 4 = 3 | undo = 2");
        told("each change records everything before it but the text and the snapshot", """
            tick 5 | alter 0 1 | set 1 2 | start 2 3 = 0 | text t1; | keep = 5 | undo = 3 | count 5 = 3 | count 6 = 1 | count 2 = 0
            undo = 2 | count 21 = 3 | undo = 1 | count 1 = 0 | tableOf 0 1 = 1 | undo = 0 | count 0 = 0
            count 5 = 3 | count 6 = 1 | restore = 5 | statement 0 0 = 2 | count 21 = 2 | tableOf 0 1 = 3
            """);
    }

    private static void historyOverItsEnd() {
        told("a history of at most 4 states: 4 stay", """
            tick 1 | tick 2 | tick 4 | tick 8 | count 4 = 4 | undo = 3 | count 0 = 7 | undo = 2 | count 0 = 3 | undo = 1 | count 0 = 1
            undo = 0 | count 0 = 0 | undo = -2 | count 0 = 0
            """);
        told("if there are 5 states then, the oldest one is dropped", """
            tick 1 | tick 2 | tick 4 | tick 8 | tick 16 | count 4 = 4 | undo = 3 | count 0 = 15 | undo = 2 | count 0 = 7 | undo = 1 | count 0 = 3
            undo = 0 | count 0 = 1 | undo = -2 | count 0 = 1
            """);
        told("the oldest one is dropped, and those that stay are not touched by what comes next", """
            tick 1 | tick 2 | tick 4 | tick 8 | tick 16 | alter 0 0 = -2 | would 0 3 1 = 2 | bestRoom 0 = -4 | text t9; | fault 0 = -4
            undo = 3 | count 0 = 15 | tick 100 = -1 | undo = 2 | count 0 = 7 | undo = 1 | count 0 = 3 | start 0 15 = -3 | undo = 0 | count 0 = 1 | undo = -2
            """);
        told("over and over", """
            tick 1 | tick 2 | tick 4 | tick 8 | tick 16 | tick 32 | tick 64 | tick 1 | tick 2 | tick 4 | tick 8 | count 4 = 4
            undo = 3 | count 0 = 134 | undo = 2 | count 0 = 130 | tick 16 | tick 32 | tick 64 | count 4 = 4
            undo = 3 | count 0 = 178 | undo = 2 | count 0 = 146 | undo = 1 | count 0 = 130 | undo = 0 | count 0 = 128 | undo = -2
            """);
        told("what restore replaced is a state of the history, too", """
            tick 1 | keep = 1 | tick 2 | tick 4 | tick 8 | restore = 1 | count 4 = 4 | undo = 3 | count 0 = 15 | undo = 2 | undo = 1 | undo = 0 | count 0 = 1
            """);
    }

    private static void ranks() {
        told("INVALID_ARGUMENT rather than NOT_POSSIBLE", """
            start 0 1 = 0 | alter 0 1 = 1 | alter 0 2 = -2 | alter 0 8 = -1 | alter 0 -1 = -1 | end -1 = -1
            """);
        told("INVALID_ARGUMENT rather than LIMIT_REACHED", """
            4 times start 0 1 | start 0 1 = -3 | start 0 0 = -1 | start 0 64 = -1 | start -1 1 = -1 | start 4 1 = -1
            would 0 1 0 = -3 | would 0 1 4 = -1 | would 0 1 -1 = -1 | would 0 0 0 = -1 | would 0 64 0 = -1 | would 4 1 0 = -1
            60 times type 120 | type 120 = -3 | type 127 = -1 | type 31 = -1
            """);
        told("NOT_POSSIBLE and INVALID_ARGUMENT rather than LIMIT_REACHED, at 100 notices", """
            text c0,1; * 12 | 8 times play = 12 | alter 0 1 = 97 | alter 0 1 = 98 | start 3 2 = 0 | alter 1 1 = 1 | alter 2 1 = 1
            alter 2 2 = -3 | alter 1 1 = -2 | alter 3 0 = -2 | alter 6 0 = -1 | alter 1 8 = -1 | count 1 = 100
            """);
        told("INVALID_ARGUMENT rather than NOT_FOUND", """
            tableOf 0 2 = -4 | tableOf 6 2 = -1 | tableOf -1 2 = -1 | entry 0 0 0 = -4 | entry 4 0 0 = -1 | entry 0 -1 0 = -1 | entry 0 0 6 = -1
            statement 0 0 = -4 | statement -1 0 = -1 | statement 0 4 = -1 | notice 0 = -4 | notice -1 = -1 | inTheWay 0 = -4 | inTheWay 6 = -1
            bestRoom 0 = -4 | bestRoom 2 = -1 | fault 0 = -4 | fault 3 = -1 | fault -1 = -1
            """);
        told("If there is no table or session with a certain number, this is INVALID_ARGUMENT", """
            alter 6 0 = -1 | tableOf 6 0 = -1 | inTheWay 6 = -1 | inTheWay -1 = -1 | start 4 1 = -1 | sessionOf 4 0 = -1 | entry 4 0 0 = -1 | would 4 1 0 = -1
            """);
    }
}

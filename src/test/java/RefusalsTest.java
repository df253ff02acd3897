import java.util.ArrayList;
import java.util.List;

/**
 * "A call that returns an error changes nothing": after each refused call of each kind an object must
 * answer all that can be asked as one that was never asked to do it. The same holds for calls that
 * only tell something.
 */
public final class RefusalsTest {
    private static final Checks CHECKS = new Checks("RefusalsTest");

    private static final String BUSY = """
        set 1 4 | start 0 7 | start 0 9 | end 0 | start 1 1 | end 2 | alter 0 1 | tick 2 | alter 3 2 | set 0 7 | alter 5 1
        start 2 33 | start 3 2 | end 4 | keep | tick 1 | set 1 3 | start 1 16 | text t1;c1,1;
        """;
    private static final String FOUR_AT_WORK = "4 times start 0 1 | start 1 1 | alter 0 1 | keep | alter 1 1 | ";
    private static final String FULL_HAND = "set 1 2 | start 0 1 | start 0 2 | end 0 | alter 0 1 | keep | alter 5 1 | ";
    private static final String OVERFULL_HAND = "start 0 7 | set 1 1 | alter 0 1 | keep | alter 5 1 | ";
    private static final String HUNDRED_NOTICES =
        "text c0,1; * 12 | 8 times play | clearText | alter 1 1 | alter 1 2 | alter 1 3 | start 2 3 | alter 1 4 | keep | ";
    private static final String LAST_COLUMN = "alter 2 4 | start 0 4 | alter 2 0 | end 0 | keep | tick 1 | ";
    private static final String FULL_TEXT = "tick 1 | keep | tick 2 | text t1; * 20 | ";

    /** All that can be asked without changing anything. */
    private static final List<Rows.Row> QUESTIONS = questions();
    /** What shows the history, the snapshot and the text, by using them up. */
    private static final List<Rows.Row> UNWINDING = unwinding();

    public static void main(String[] args) {
        alter();
        start();
        endAndTick();
        settings();
        snapshotAndHistory();
        texts();
        telling();
        CHECKS.close();
    }

    private static void alter() {
        refused(BUSY, "alter 6 1 = -1", "alter -1 1 = -1", "alter 1 8 = -1", "alter 1 -1 = -1", "alter 0 2 = -2", "alter 1 0 = -2");
        refused("", "alter 6 1 = -1", "alter 0 8 = -1", "alter 0 0 = -2");
        refused(LAST_COLUMN, "alter 2 4 = -2");
        refused("set 0 0 | " + LAST_COLUMN, "alter 2 4 = -2");
        refused(HUNDRED_NOTICES, "alter 0 1 = -3", "alter 5 1 = -3", "alter 1 1 = -2", "alter 1 8 = -1", "alter 2 0 = -2");
        refused("set 0 0 | " + HUNDRED_NOTICES, "alter 0 1 = -3", "alter 1 1 = -2");
    }

    private static void start() {
        refused("", "start 4 1 = -1", "start -1 1 = -1", "start 0 0 = -1", "start 0 64 = -1", "start 0 15 = -3");
        refused(BUSY, "start 4 1 = -1", "start 0 0 = -1", "start 0 64 = -1", "start 0 15 = -3", "start 0 62 = -3", "start 2 63 = -3");
        refused(FOUR_AT_WORK, "start 0 1 = -3", "start 0 2 = -3", "start 0 64 = -1");
        refused(FULL_HAND, "start 0 28 = -3", "start 0 5 = -3 | start 0 5 = -3", "start 0 63 = -3");
        refused(OVERFULL_HAND, "start 0 8 = -3", "start 0 9 = -3", "start 0 1 = -3");
        refused("start 0 7 | end 0 | start 0 1 | keep | ", "start 0 30 = -3", "start 0 62 = -3", "start 0 15 = -3");
    }

    private static void endAndTick() {
        refused("", "end 0 = -2", "end -1 = -1", "tick 0 = -1", "tick 100 = -1");
        refused(BUSY, "end 0 = -2", "end -1 = -1", "end 99 = -2", "end 2147483647 = -2", "end -2147483648 = -1");
        refused(BUSY, "tick 0 = -1", "tick -1 = -1", "tick 100 = -1", "tick 2147483647 = -1", "tick -2147483648 = -1");
    }

    private static void settings() {
        refused(BUSY, "set 0 -1 = -1", "set 0 21 = -1", "set 1 0 = -1", "set 1 9 = -1", "set 2 1 = -1", "set -1 1 = -1", "set 20 3 = -1");
        refused("start 0 7 | end 0 | ", "set 1 0 = -1", "set 1 -2147483648 = -1", "set 2 1 = -1");
    }

    private static void snapshotAndHistory() {
        refused("", "restore = -2", "undo = -2");
        refused("tick 1 | start 0 3 | alter 0 1 | ", "restore = -2");
        refused("start 0 3 | keep | alter 0 1 | undo | undo | ", "undo = -2");
    }

    private static void texts() {
        refused(BUSY, "type 31 = -1", "type 127 = -1", "type -2147483648 = -1", "fault -1 = -1", "fault 3 = -1", "fault 0 = -4", "fault 2 = -4");
        refused(FULL_TEXT, "type 32 = -3", "type 59 = -3", "type 127 = -1", "type 31 = -1");
        String[] faulty = {"t", "t1", "t1;t1", "c1,1;t1;x", "t0;", "s0,1;e0;e0;", "t9;c5,0;", "c0,2;s0,15;", "c0,2;s0,1;t100;"};
        for (String text : faulty) {
            refused("keep | tick 1 | alter 0 1 | text " + text + " | ", "play = -2", "play = -2 | play = -2", "fault 3 = -1", "fault 2");
        }
        refused(HUNDRED_NOTICES + "text t1;c0,1; | ", "play = -2", "fault 2 = -3");
        refused(FOUR_AT_WORK + "text c2,1;s0,1; | ", "play = -2", "fault 2 = -3");
        refused(FULL_HAND + "text c2,1;s0,28; | ", "play = -2", "fault 2 = -3");
        refused(OVERFULL_HAND + "text c2,1;s0,9; | ", "play = -2", "fault 2 = -3");
    }

    private static void telling() {
        for (String state : new String[] {"", BUSY, FOUR_AT_WORK, FULL_HAND, OVERFULL_HAND, HUNDRED_NOTICES, LAST_COLUMN, FULL_TEXT}) {
            refused(state, "tableOf 0 2", "tableOf 6 0 = -1", "tableOf 0 5 = -1", "sessionOf 4 0 = -1", "sessionOf 0 10 = -1");
            refused(state, "entry 0 0 0", "entry 0 99 0 = -4", "entry 0 -1 0 = -1", "statement 0 3", "statement 99 0 = -4", "statement -1 0 = -1");
            refused(state, "notice 0", "notice 100 = -4", "notice -1 = -1", "count 7", "count 9 = -1", "inTheWay 0", "inTheWay 6 = -1");
            refused(state, "would 0 1 0", "would 0 63 1 = -3", "would 1 6 2", "would 3 1 3", "would 4 1 0 = -1", "would 0 64 0 = -1", "would 0 1 4 = -1");
            refused(state, "bestRoom 0", "bestRoom 1", "bestRoom 2 = -1", "fault 0", "fault 1", "fault 2", "fault 3 = -1");
        }
        refused(BUSY + "keep | ", "keep = 3");
    }

    /** After the state the calls must change nothing, each by itself. */
    private static void refused(String state, String... calls) {
        for (String call : calls) {
            CHECKS.part(state.strip() + " then " + call);
            List<Rows.Row> before = Rows.read(state);
            List<Rows.Row> tried = Rows.read(call);
            int left = Rows.MOST_CALLS - before.size() - tried.size();
            for (int from = 0; from < QUESTIONS.size(); from += left) {
                compare(before, tried, QUESTIONS.subList(from, Math.min(QUESTIONS.size(), from + left)));
            }
            CHECKS.holds("the unwinding has room", UNWINDING.size() <= left);
            compare(before, tried, UNWINDING);
        }
    }

    private static void compare(List<Rows.Row> before, List<Rows.Row> tried, List<Rows.Row> asked) {
        ShapeSessions x = new ShapeSessions();
        ShapeSessions untried = new ShapeSessions();
        for (Rows.Row row : before) {
            answer(x, row);
            answer(untried, row);
        }
        for (Rows.Row row : tried) {
            int answer = answer(x, row);
            if (row.due() != null) {
                CHECKS.due(row.told(), row.due(), answer);
            }
        }
        for (Rows.Row row : asked) {
            CHECKS.due(row.told(), answer(untried, row), answer(x, row));
        }
    }

    private static int answer(ShapeSessions x, Rows.Row row) {
        return Calls.answer(x, row.call(), row.arguments());
    }

    private static List<Rows.Row> questions() {
        StringBuilder all = new StringBuilder();
        ask(all, "count", 22);
        ask(all, "tableOf", 6, 5);
        ask(all, "sessionOf", 4, 10);
        ask(all, "entry", 4, 9, 6);
        ask(all, "statement", 12, 4);
        ask(all, "notice", 101);
        ask(all, "inTheWay", 6);
        ask(all, "bestRoom", 2);
        ask(all, "fault", 3);
        for (int tables : new int[] {1, 2, 4, 8, 16, 32, 3, 7, 28, 63}) {
            for (int session = 0; session < 4; session++) {
                for (int what = 0; what < 4; what++) {
                    all.append("would ").append(session).append(' ').append(tables).append(' ').append(what).append('\n');
                }
            }
        }
        return Rows.read(all.toString());
    }

    private static List<Rows.Row> unwinding() {
        StringBuilder shown = new StringBuilder();
        ask(shown, "count", 9);
        ask(shown, "sessionOf", 4, 3);
        ask(shown, "tableOf", 6, 2);
        ask(shown, "entry", 2, 3, 2);
        List<Rows.Row> all = new ArrayList<>();
        for (String change : new String[] {"undo", "undo", "undo", "undo", "undo", "restore", "play | clearText | start 3 1 | tick 99"}) {
            all.addAll(Rows.read(change));
            all.addAll(Rows.read(shown.toString()));
        }
        return all;
    }

    /** Appends the call with all arguments from 0 on, below the ends. */
    private static void ask(StringBuilder all, String call, int... ends) {
        int[] arguments = new int[ends.length];
        while (arguments[0] < ends[0]) {
            all.append(call);
            for (int argument : arguments) {
                all.append(' ').append(argument);
            }
            all.append('\n');
            int place = ends.length - 1;
            arguments[place]++;
            while (place > 0 && arguments[place] == ends[place]) {
                arguments[place] = 0;
                place--;
                arguments[place]++;
            }
        }
    }
}

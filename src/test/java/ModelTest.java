/**
 * Lets the program and Model answer the same runs of 512 calls. The runs come from a number sequence
 * with a fixed beginning, so they are the same each time.
 */
public final class ModelTest {
    private static final int RUNS = 3000;
    private static final int CALLS = 512;

    private static final Checks CHECKS = new Checks("ModelTest");

    private long sequence;
    private final ShapeSessions program = new ShapeSessions();
    private final Model model = new Model();
    /** How a run leans: which calls are frequent in it. */
    private final int lean;
    private int sessions = 4;
    private int tables = 6;

    private ModelTest(int run) {
        sequence = run * 7919L + 12345;
        lean = run % 6;
        if (pick(2) == 0) {
            sessions = 1 + pick(2);
        }
        if (pick(2) == 0) {
            tables = 1 + pick(4);
        }
    }

    public static void main(String[] args) {
        for (int run = 0; run < RUNS; run++) {
            CHECKS.part("run " + run);
            new ModelTest(run).go();
        }
        CHECKS.close();
    }

    private int pick(int below) {
        sequence = sequence * 6364136223846793005L + 1442695040888963407L;
        return (int) ((sequence >>> 33) % below);
    }

    private boolean seldom() {
        return pick(40) == 0;
    }

    /** A number from least to most, and now and then one just outside or far off. */
    private int around(int least, int most) {
        if (seldom()) {
            int[] odd = {least - 1, most + 1, -1, Integer.MIN_VALUE, Integer.MAX_VALUE};
            return odd[pick(odd.length)];
        }
        return least + pick(most - least + 1);
    }

    private void go() {
        if (lean == 2) {
            both("set", 0, pick(3));
        }
        for (int call = 0; call < CALLS; call++) {
            if (pick(5) < 3) {
                changing();
            } else {
                asking();
            }
        }
    }

    private void changing() {
        int kind = pick(100);
        if (lean == 1 && kind < 60) {
            kind = 0;
        }
        if (lean == 3 && kind < 50) {
            kind = 90;
        }
        if (kind < 20) {
            both("alter", tableArgument(), around(0, 7));
        } else if (kind < 45) {
            both("start", sessionArgument(), setArgument());
        } else if (kind < 65) {
            both("end", statementArgument());
        } else if (kind < 73) {
            both("tick", pick(4) == 0 ? around(1, 99) : around(1, 4));
        } else if (kind < 80) {
            settingCall();
        } else if (kind < 82) {
            both("keep");
        } else if (kind < 84) {
            both("restore");
        } else if (kind < 88) {
            both("undo");
        } else {
            textCalls();
        }
    }

    private void settingCall() {
        int what = around(0, 1);
        both("set", what, what == 0 ? around(0, pick(2) == 0 ? 20 : 4) : around(1, 8));
    }

    private int tableArgument() {
        return seldom() ? around(0, 5) : pick(tables);
    }

    private int sessionArgument() {
        return seldom() ? around(0, 3) : pick(sessions);
    }

    private int setArgument() {
        if (seldom()) {
            return around(1, 63);
        }
        int set = 1 << pick(tables);
        for (int i = pick(3); i > 0; i--) {
            set |= 1 << pick(tables);
        }
        return set;
    }

    private int statementArgument() {
        int started = model.count(2);
        return pick(8) == 0 ? around(0, 20) : started - 1 - pick(6);
    }

    private void textCalls() {
        int kind = pick(10);
        if (kind == 0) {
            both("clearText");
        } else if (kind == 1) {
            both("type", around(32, 126));
        } else if (kind < 5) {
            both("play");
        } else {
            for (char sign : command().toCharArray()) {
                both("type", sign);
            }
            if (pick(3) == 0) {
                both("play");
                both("clearText");
            }
        }
    }

    private String command() {
        String zeros = pick(6) == 0 ? "0" : "";
        String end = pick(25) == 0 ? "" : ";";
        switch (pick(4)) {
            case 0: return "c" + zeros + pick(tables) + "," + pick(9) + end;
            case 1: return "s" + zeros + pick(sessions) + "," + Math.abs(setArgument() % 1000) + end;
            case 2: return "e" + zeros + Math.max(0, statementArgument() % 1000 + pick(3)) + end;
            default: return "t" + zeros + pick(pick(20) == 0 ? 1200 : 6) + end;
        }
    }

    private void asking() {
        switch (pick(12)) {
            case 0: case 1: both("tableOf", around(0, 5), around(0, 4)); break;
            case 2: both("sessionOf", around(0, 3), around(0, 9)); break;
            case 3: both("entry", sessionArgument(), around(0, 5), around(0, 5)); break;
            case 4: both("statement", statementArgument(), around(0, 3)); break;
            case 5: both("notice", around(0, 20)); break;
            case 6: both("count", pick(3) == 0 ? around(20, 21) : around(0, 8)); break;
            case 7: case 8: both("would", sessionArgument(), setArgument(), around(0, 3)); break;
            case 9: both("inTheWay", tableArgument()); break;
            case 10: both("bestRoom", around(0, 1)); break;
            default: both("fault", around(0, 2));
        }
        if (seldom()) {
            compareAll();
        }
    }

    /** Asks for all there is: more than 512 calls may come of it, which the program need not mind. */
    private void compareAll() {
        for (int a = 0; a < 6; a++) {
            for (int b = 0; b < 10; b++) {
                both("tableOf", a, b);
                both("sessionOf", a, b);
                for (int c = 0; c < 6; c++) {
                    both("entry", a, b, c);
                }
            }
        }
    }

    private void both(String call, int... a) {
        StringBuilder told = new StringBuilder(call);
        for (int argument : a) {
            told.append(' ').append(argument);
        }
        CHECKS.due(told.toString(), Calls.answer(model, call, a), Calls.answer(program, call, a));
    }
}

/**
 * No call may throw or fail to end, for any arguments in any state: calls of all kinds far beyond the
 * 512th, and ticks up to the greatest number that there is. What is answered there is free by the
 * document, so it is not looked at.
 */
public final class EndsTest {
    private static final int OBJECTS = 40;
    private static final int CALLS = 20_000;
    /** Far more than the calls take: it only keeps a call that does not end from standing still here. */
    private static final long MOST_MILLISECONDS = 120_000;

    private static final Checks CHECKS = new Checks("EndsTest");

    private static final String[] NAMES = {"alter", "start", "end", "tick", "set", "tableOf", "sessionOf", "entry",
        "statement", "notice", "count", "would", "inTheWay", "bestRoom", "keep", "restore", "undo", "type", "clearText",
        "fault", "play"};
    private static final int[] FAR = {Integer.MIN_VALUE, Integer.MIN_VALUE + 1, -1000, -1, 0, 64, 100, 127, 256, 998, 999,
        1000, 65536, 1 << 30, Integer.MAX_VALUE - 1, Integer.MAX_VALUE};

    private static long sequence;

    private interface Part {
        void go();
    }

    public static void main(String[] args) throws InterruptedException {
        ends("calls of all kinds with all kinds of arguments", EndsTest::manyCalls);
        ends("ticks up to the greatest number and beyond", EndsTest::manyTicks);
        CHECKS.close();
    }

    private static void ends(String what, Part part) throws InterruptedException {
        CHECKS.part(what);
        Throwable[] thrown = new Throwable[1];
        boolean[] ended = new boolean[1];
        Thread thread = new Thread(() -> {
            try {
                part.go();
                ended[0] = true;
            } catch (RuntimeException | Error e) {
                thrown[0] = e;
            }
        });
        thread.setDaemon(true);
        thread.start();
        thread.join(MOST_MILLISECONDS);
        CHECKS.holds("nothing is thrown, but " + thrown[0] + " was", thrown[0] == null);
        CHECKS.holds("it ends", ended[0]);
    }

    private static int pick(int below) {
        sequence = sequence * 6364136223846793005L + 1442695040888963407L;
        return (int) ((sequence >>> 33) % below);
    }

    private static void manyCalls() {
        for (int object = 0; object < OBJECTS; object++) {
            sequence = object * 104729L + 7;
            ShapeSessions x = new ShapeSessions();
            for (int call = 0; call < CALLS; call++) {
                anyCall(x);
            }
        }
    }

    private static void anyCall(ShapeSessions x) {
        String name = NAMES[pick(NAMES.length)];
        int[] arguments = {argument(), argument(), argument()};
        if (name.equals("type") && pick(2) == 0) {
            arguments[0] = "cset0123,;".charAt(pick(10));
        } else if (name.equals("end") && pick(2) == 0) {
            arguments[0] = Math.max(0, x.count(2) - 1 - pick(8));
        }
        Calls.answer(x, name, arguments);
    }

    private static int argument() {
        switch (pick(8)) {
            case 0: return FAR[pick(FAR.length)];
            case 1: return (int) sequence;
            case 2: return pick(130);
            default: return pick(8);
        }
    }

    /** From every tick shortly before the greatest number it lets pass as many ticks as may pass at once. */
    private static void manyTicks() {
        ShapeSessions x = new ShapeSessions();
        for (char sign : "t99;".repeat(15).toCharArray()) {
            x.type(sign);
        }
        int together = 15 * 99;
        while (x.count(0) < Integer.MAX_VALUE - 2 * together) {
            x.play();
        }
        while (x.count(0) < Integer.MAX_VALUE - 2 * 99) {
            x.tick(99);
        }
        x.set(0, 20);
        x.alter(0, 1);
        x.keep();
        int before = Integer.MAX_VALUE - x.count(0);
        for (int ahead = 1; ahead <= before; ahead++) {
            for (int ticks = 1; ticks <= 99; ticks++) {
                tickFrom(x, ahead, ticks);
            }
        }
    }

    private static void tickFrom(ShapeSessions x, int ahead, int ticks) {
        x.restore();
        for (int i = 0; i < 2 && x.count(0) + ahead < Integer.MAX_VALUE; i++) {
            x.tick(Math.min(99, Integer.MAX_VALUE - ahead - x.count(0)));
        }
        CHECKS.due("the tick from which " + ticks + " pass", Integer.MAX_VALUE - ahead, x.count(0));
        x.tick(ticks);
        x.tick(1);
        x.alter(1, 1);
        x.tick(99);
        x.tick(99);
    }
}

import java.util.ArrayDeque;
import java.util.ArrayList;
import java.util.Comparator;
import java.util.Deque;
import java.util.List;
import java.util.Optional;
import java.util.TreeMap;
import java.util.TreeSet;
import java.util.regex.Matcher;
import java.util.regex.Pattern;

/**
 * The document once more, as plainly as the Java library allows and without a look at the program:
 * ModelTest lets both answer the same calls. A refusal is an exception here.
 */
final class Model {
    /** A refusal, with the error code that the call returns. */
    static final class Refusal extends RuntimeException {
        private static final long serialVersionUID = 1;
        final int code;

        Refusal(int code) {
            super(null, null, false, false);
            this.code = code;
        }
    }

    private static final class Held {
        int table;
        int version;
        TreeSet<Integer> columns = new TreeSet<>();
        TreeSet<Integer> workers = new TreeSet<>();
        int lastUse;
        boolean stale;

        Held copy() {
            Held h = new Held();
            h.table = table;
            h.version = version;
            h.columns.addAll(columns);
            h.workers.addAll(workers);
            h.lastUse = lastUse;
            h.stale = stale;
            return h;
        }
    }

    private record Notice(int table, int due) { }

    private record Statement(int number, int session, List<Integer> tables, int tick) { }

    private static final class World {
        int tick = 0;
        int delay = 3;
        int room = 3;
        List<Integer> versions = new ArrayList<>();
        List<TreeSet<Integer>> shapes = new ArrayList<>();
        List<Notice> notices = new ArrayList<>();
        List<Statement> statements = new ArrayList<>();
        TreeMap<Integer, Statement> open = new TreeMap<>();
        List<List<Held>> hands = new ArrayList<>();
        int[] known = new int[4];
        int[] hits = new int[4];
        int[] loads = new int[4];
        int[] drops = new int[4];
        int[] asks = new int[4];
        int[] late = new int[4];

        World copy() {
            World w = new World();
            w.tick = tick;
            w.delay = delay;
            w.room = room;
            w.versions.addAll(versions);
            shapes.forEach(s -> w.shapes.add(new TreeSet<>(s)));
            w.notices.addAll(notices);
            w.statements.addAll(statements);
            w.open.putAll(open);
            hands.forEach(h -> w.hands.add(new ArrayList<>(h.stream().map(Held::copy).toList())));
            w.known = known.clone();
            w.hits = hits.clone();
            w.loads = loads.clone();
            w.drops = drops.clone();
            w.asks = asks.clone();
            w.late = late.clone();
            return w;
        }
    }

    private World world = new World();
    private World snapshot = null;
    private final Deque<World> past = new ArrayDeque<>();
    private String text = "";

    Model() {
        for (int t = 0; t < 6; t++) {
            world.versions.add(0);
            world.shapes.add(new TreeSet<>(List.of(0)));
        }
        for (int s = 0; s < 4; s++) {
            world.hands.add(new ArrayList<>());
        }
    }

    private interface Call {
        int answer();
    }

    private static int guarded(Call call) {
        try {
            return call.answer();
        } catch (Refusal r) {
            return r.code;
        }
    }

    /** A change: undone wholly if it is refused, recorded if it is not. */
    private int change(Call call) {
        World before = world.copy();
        try {
            int answer = call.answer();
            past.addLast(before);
            if (past.size() == 5) {
                past.removeFirst();
            }
            return answer;
        } catch (Refusal r) {
            world = before;
            return r.code;
        }
    }

    private static void range(int value, int least, int most) {
        if (value < least || value > most) {
            throw new Refusal(-1);
        }
    }

    private static List<Integer> members(int bits) {
        List<Integer> all = new ArrayList<>();
        for (int k = 0; k < 6; k++) {
            if ((bits & (1 << k)) != 0) {
                all.add(k);
            }
        }
        return all;
    }

    private static int bits(Iterable<Integer> members) {
        int bits = 0;
        for (int k : members) {
            bits |= 1 << k;
        }
        return bits;
    }

    int alter(int table, int column) { return change(() -> doAlter(table, column)); }

    int start(int session, int tables) { return change(() -> doStart(session, tables)); }

    int end(int statement) { return change(() -> doEnd(statement)); }

    int tick(int ticks) { return change(() -> doTick(ticks)); }

    int set(int what, int value) { return change(() -> doSet(what, value)); }

    private boolean canChange(int table) {
        return standing(table).isEmpty();
    }

    private TreeSet<Integer> standing(int table) {
        TreeSet<Integer> all = new TreeSet<>();
        for (List<Held> hand : world.hands) {
            for (Held h : hand) {
                if (h.table == table && h.version < world.versions.get(table)) {
                    all.addAll(h.workers);
                }
            }
        }
        return all;
    }

    private int doAlter(int table, int column) {
        range(table, 0, 5);
        range(column, 0, 7);
        TreeSet<Integer> shape = world.shapes.get(table);
        if (!canChange(table) || shape.equals(new TreeSet<>(List.of(column)))) {
            throw new Refusal(-2);
        }
        if (world.notices.size() == 100) {
            throw new Refusal(-3);
        }
        if (!shape.remove(column)) {
            shape.add(column);
        }
        world.versions.set(table, world.versions.get(table) + 1);
        world.notices.add(new Notice(table, world.tick + world.delay));
        comeNow(world.delay == 0 ? world.notices.size() - 1 : world.notices.size());
        return world.versions.get(table);
    }

    /** Lets the notices from a number on that are due at the present tick come. */
    private int comeNow(int first) {
        int came = 0;
        for (int n = first; n < world.notices.size(); n++) {
            if (world.notices.get(n).due() == world.tick) {
                for (int s = 0; s < 4; s++) {
                    came++;
                    if (n < world.known[s]) {
                        world.late[s]++;
                    }
                    knowUpTo(s, n);
                }
            }
        }
        return came;
    }

    private void knowUpTo(int session, int notice) {
        while (world.known[session] <= notice) {
            int table = world.notices.get(world.known[session]++).table();
            for (Held h : world.hands.get(session)) {
                h.stale |= h.table == table && h.version < world.versions.get(table);
            }
            sweep(session);
        }
    }

    private void sweep(int session) {
        world.hands.get(session).removeIf(h -> h.stale && h.workers.isEmpty());
    }

    /** Drops one entry, if there is one by which no statement works. */
    private boolean dropOne(int session) {
        Optional<Held> oldest = world.hands.get(session).stream().filter(h -> h.workers.isEmpty())
            .min(Comparator.<Held>comparingInt(h -> h.lastUse).thenComparingInt(h -> h.table));
        oldest.ifPresent(h -> {
            world.hands.get(session).remove(h);
            world.drops[session]++;
        });
        return oldest.isPresent();
    }

    private int doStart(int session, int tables) {
        range(session, 0, 3);
        range(tables, 1, 63);
        int number = world.statements.size();
        long open = world.open.values().stream().filter(s -> s.session() == session).count();
        if (open == 4 || number == 999) {
            throw new Refusal(-3);
        }
        if (world.known[session] < world.notices.size()) {
            knowUpTo(session, world.notices.size() - 1);
            world.asks[session]++;
        }
        List<Held> hand = world.hands.get(session);
        for (int table : members(tables)) {
            Held used = hand.stream().filter(h -> h.table == table && !h.stale).findFirst().orElse(null);
            if (used == null) {
                if (hand.size() >= world.room && (!dropOne(session) || hand.size() >= world.room)) {
                    throw new Refusal(-3);
                }
                used = new Held();
                used.table = table;
                used.version = world.versions.get(table);
                used.columns.addAll(world.shapes.get(table));
                hand.add(used);
                world.loads[session]++;
            } else {
                world.hits[session]++;
            }
            used.workers.add(number);
            used.lastUse = number;
        }
        Statement s = new Statement(number, session, members(tables), world.tick);
        world.statements.add(s);
        world.open.put(number, s);
        return number;
    }

    private int doEnd(int number) {
        range(number, 0, Integer.MAX_VALUE);
        Statement s = world.open.remove(number);
        if (s == null) {
            throw new Refusal(-2);
        }
        List<Held> hand = world.hands.get(s.session());
        int before = hand.size();
        hand.forEach(h -> h.workers.remove(number));
        sweep(s.session());
        makeRoom(s.session());
        return before - hand.size();
    }

    private void makeRoom(int session) {
        while (world.hands.get(session).size() > world.room && dropOne(session)) {
            continue;
        }
    }

    private int doTick(int ticks) {
        range(ticks, 1, 99);
        int came = 0;
        for (int i = 0; i < ticks; i++) {
            world.tick++;
            came += comeNow(0);
        }
        return came;
    }

    private int doSet(int what, int value) {
        range(what, 0, 1);
        range(value, what == 0 ? 0 : 1, what == 0 ? 20 : 8);
        int before = what == 0 ? world.delay : world.room;
        if (what == 0) {
            world.delay = value;
        } else {
            world.room = value;
            for (int s = 0; s < 4; s++) {
                makeRoom(s);
            }
        }
        return before;
    }

    int tableOf(int table, int what) {
        return guarded(() -> {
            range(table, 0, 5);
            range(what, 0, 4);
            switch (what) {
                case 0: return world.versions.get(table);
                case 1: return bits(world.shapes.get(table));
                case 2: return world.hands.stream().flatMap(List::stream)
                    .filter(h -> h.table == table && !h.workers.isEmpty()).mapToInt(h -> h.version).min().orElse(-4);
                case 3: return (int) world.hands.stream()
                    .filter(hand -> hand.stream().anyMatch(h -> h.table == table && !h.stale)).count();
                default: return canChange(table) ? 1 : 0;
            }
        });
    }

    int sessionOf(int session, int what) {
        return guarded(() -> {
            range(session, 0, 3);
            range(what, 0, 9);
            List<Held> hand = world.hands.get(session);
            switch (what) {
                case 0: return world.known[session];
                case 1: return (int) world.notices.stream().filter(n -> n.due() > world.tick).count();
                case 2: return hand.size();
                case 3: return (int) hand.stream().filter(h -> h.stale).count();
                case 4: return (int) world.open.values().stream().filter(s -> s.session() == session).count();
                case 5: return world.hits[session];
                case 6: return world.loads[session];
                case 7: return world.drops[session];
                case 8: return world.asks[session];
                default: return world.late[session];
            }
        });
    }

    int entry(int session, int index, int what) {
        return guarded(() -> {
            range(session, 0, 3);
            range(index, 0, Integer.MAX_VALUE);
            range(what, 0, 5);
            List<Held> hand = new ArrayList<>(world.hands.get(session));
            hand.sort(Comparator.<Held>comparingInt(h -> h.table).thenComparingInt(h -> h.version));
            if (index >= hand.size()) {
                throw new Refusal(-4);
            }
            Held h = hand.get(index);
            int[] all = {h.table, h.version, bits(h.columns), h.workers.size(), h.lastUse, h.stale ? 1 : 0};
            return all[what];
        });
    }

    int statement(int number, int what) {
        return guarded(() -> {
            range(number, 0, Integer.MAX_VALUE);
            range(what, 0, 3);
            Statement s = world.open.get(number);
            if (s == null) {
                throw new Refusal(-4);
            }
            int outrun = 0;
            for (Held h : world.hands.get(s.session())) {
                if (h.workers.contains(number) && h.version < world.versions.get(h.table)) {
                    outrun |= 1 << h.table;
                }
            }
            int[] all = {s.session(), bits(s.tables()), s.tick(), outrun};
            return all[what];
        });
    }

    int notice(int number) {
        if (number < 0) {
            return -1;
        }
        return number < world.notices.size() ? world.notices.get(number).table() : -4;
    }

    int count(int what) {
        switch (what) {
            case 0: return world.tick;
            case 1: return world.notices.size();
            case 2: return world.statements.size();
            case 3: return world.open.size();
            case 4: return past.size();
            case 5: return text.length();
            case 6: return snapshot == null ? 0 : 1;
            case 7: return bits(members(63).stream().filter(this::canChange).toList());
            case 8: return world.loads[0] + world.loads[1] + world.loads[2] + world.loads[3];
            case 20: return world.delay;
            case 21: return world.room;
            default: return -1;
        }
    }

    int would(int session, int tables, int what) {
        World before = world;
        world = before.copy();
        int answer = guarded(() -> {
            range(what, 0, 3);
            doStart(session, tables);
            int[] all = {world.hits[session] - before.hits[session], world.loads[session] - before.loads[session],
                world.drops[session] - before.drops[session], before.notices.size() - before.known[session]};
            return all[what];
        });
        world = before;
        return answer;
    }

    int inTheWay(int table) {
        return guarded(() -> {
            range(table, 0, 5);
            return standing(table).isEmpty() ? -4 : standing(table).first();
        });
    }

    int bestRoom(int what) {
        if (what != 0 && what != 1) {
            return -1;
        }
        int all = world.statements.size();
        if (all == 0) {
            return -4;
        }
        int best = 0;
        int fewest = Integer.MAX_VALUE;
        for (int room = 8; room >= 1; room--) {
            int loads = loadsAgain(world.statements.subList(Math.max(0, all - 12), all), room);
            if (loads <= fewest) {
                fewest = loads;
                best = room;
            }
        }
        return what == 0 ? best : fewest;
    }

    /** Each hand is a list of tables, the one used longest ago first; those of one statement in rising order. */
    private static int loadsAgain(List<Statement> statements, int room) {
        List<List<Integer>> hands = List.of(new ArrayList<>(), new ArrayList<>(), new ArrayList<>(), new ArrayList<>());
        int loads = 0;
        for (Statement s : statements) {
            if (s.tables().size() > room) {
                return Integer.MAX_VALUE;
            }
            List<Integer> hand = hands.get(s.session());
            for (Integer table : s.tables()) {
                if (!hand.remove(table)) {
                    loads++;
                    if (hand.size() == room) {
                        hand.remove(0);
                    }
                }
                hand.add(table);
            }
        }
        return loads;
    }

    int keep() {
        snapshot = world.copy();
        return world.tick;
    }

    int restore() {
        return change(() -> {
            if (snapshot == null) {
                throw new Refusal(-2);
            }
            world = snapshot.copy();
            return world.tick;
        });
    }

    int undo() {
        if (past.isEmpty()) {
            return -2;
        }
        world = past.removeLast();
        return past.size();
    }

    int type(int character) {
        if (character < 32 || character > 126) {
            return -1;
        }
        if (text.length() == 60) {
            return -3;
        }
        text += (char) character;
        return text.length();
    }

    int clearText() {
        int length = text.length();
        text = "";
        return length;
    }

    private static final Pattern COMMAND = Pattern.compile("([cs])(\\d{1,3}),(\\d{1,3});|([et])(\\d{1,3});");

    /** Does the commands, and returns position, reason and cause of the fault, or how many there are. */
    private int[] doText() {
        int at = 0;
        int done = 0;
        while (at < text.length()) {
            Matcher m = COMMAND.matcher(text).region(at, text.length());
            if (!m.lookingAt()) {
                return new int[] {at, 1, -4};
            }
            int answer = guarded(() -> doCommand(m));
            if (answer < 0) {
                return new int[] {at, 2, answer};
            }
            at = m.end();
            done++;
        }
        return new int[] {done};
    }

    private int doCommand(Matcher m) {
        if (m.group(1) != null) {
            int first = Integer.parseInt(m.group(2));
            int second = Integer.parseInt(m.group(3));
            return m.group(1).equals("c") ? doAlter(first, second) : doStart(first, second);
        }
        int number = Integer.parseInt(m.group(5));
        return m.group(4).equals("e") ? doEnd(number) : doTick(number);
    }

    int fault(int what) {
        if (what < 0 || what > 2) {
            return -1;
        }
        World before = world;
        world = before.copy();
        int[] found = doText();
        world = before;
        return found.length == 1 ? -4 : found[what];
    }

    int play() {
        return change(() -> {
            int[] found = doText();
            if (found.length != 1) {
                throw new Refusal(-2);
            }
            return found[0];
        });
    }
}

/**
 * Sessions that keep the shapes of tables in hand while the tables change by versions: the document
 * ../shared/DOC.md says what each call does.
 *
 * Every change is tried on a state beside the present one, which takes its place only if no error
 * came of it: so a refused call needs nothing taken back. All states are made in the constructor and
 * used again, so that no call makes an object.
 */
public final class ShapeSessions {
    public static final int INVALID_ARGUMENT = -1;
    public static final int NOT_POSSIBLE = -2;
    public static final int LIMIT_REACHED = -3;
    public static final int NOT_FOUND = -4;

    private static final int TABLES = 6;
    private static final int ALL_TABLES = 63;
    private static final int COLUMNS = 8;
    private static final int SESSIONS = 4;
    private static final int MOST_NOTICES = 100;
    private static final int MOST_STATEMENTS = 999;
    private static final int STATEMENTS_AT_ONCE = 4;
    private static final int LATEST_STATEMENTS = 12;
    private static final int MOST_TICKS = 99;
    private static final int SLOWEST_NOTICE = 20;
    private static final int FIRST_DELAY = 3;
    private static final int MOST_ROOM = 8;
    private static final int FIRST_ROOM = 3;
    private static final int MOST_STATES = 4;
    private static final int LONGEST_TEXT = 60;
    private static final int LONGEST_NUMBER = 3;
    private static final int FIRST_SIGN = 32;
    private static final int LAST_SIGN = 126;
    private static final int NOT_OF_THE_FORM = 1;
    private static final int REFUSED = 2;
    private static final int NONE = -1;

    private State now;
    /** What a call may do as it likes with: its content is worth nothing once the call is over. */
    private State trial;
    private final State kept;
    private boolean hasKept;
    /** The oldest state first; the places from recorded on hold states that are free for use. */
    private final State[] history;
    private int recorded;
    private final Text text;
    private int faultPosition;
    /** 0 if the text had no fault when it was done last. */
    private int faultReason;
    private int faultCause;

    public ShapeSessions() {
        now = new State();
        now.clear();
        trial = new State();
        kept = new State();
        hasKept = false;
        history = new State[MOST_STATES];
        for (int i = 0; i < MOST_STATES; i++) {
            history[i] = new State();
        }
        recorded = 0;
        text = new Text();
        faultPosition = 0;
        faultReason = 0;
        faultCause = 0;
    }

    // ---- tables, statements, time

    public int alter(int table, int column) {
        trial.copyFrom(now);
        return settle(trial.changeTable(table, column));
    }

    public int start(int session, int tables) {
        trial.copyFrom(now);
        return settle(trial.begin(session, tables));
    }

    public int end(int statement) {
        trial.copyFrom(now);
        return settle(trial.finish(statement));
    }

    public int tick(int ticks) {
        trial.copyFrom(now);
        return settle(trial.pass(ticks));
    }

    public int set(int what, int value) {
        trial.copyFrom(now);
        return settle(trial.adjust(what, value));
    }

    // ---- what there is

    public int tableOf(int table, int what) {
        if (table < 0 || table >= TABLES) {
            return INVALID_ARGUMENT;
        }
        switch (what) {
            case 0: return now.version[table];
            case 1: return now.shape[table];
            case 2: return now.leastVersionAtWork(table);
            case 3: return now.handsWith(table);
            case 4: return now.canChange(table) ? 1 : 0;
            default: return INVALID_ARGUMENT;
        }
    }

    public int sessionOf(int session, int what) {
        if (session < 0 || session >= SESSIONS) {
            return INVALID_ARGUMENT;
        }
        Session asked = now.sessions[session];
        switch (what) {
            case 0: return asked.known;
            case 1: return now.noticesOnTheirWay();
            case 2: return asked.inHand;
            case 3: return asked.staleInHand();
            case 4: return asked.statementsAtWork();
            case 5: return asked.hits;
            case 6: return asked.loads;
            case 7: return asked.drops;
            case 8: return asked.asksThatHelped;
            case 9: return asked.lateNotices;
            default: return INVALID_ARGUMENT;
        }
    }

    public int entry(int session, int index, int what) {
        if (session < 0 || session >= SESSIONS || index < 0 || what < 0 || what > 5) {
            return INVALID_ARGUMENT;
        }
        Session asked = now.sessions[session];
        if (index >= asked.inHand) {
            return NOT_FOUND;
        }
        Entry found = asked.hand[index];
        switch (what) {
            case 0: return found.table;
            case 1: return found.version;
            case 2: return found.shape;
            case 3: return found.workers;
            case 4: return found.lastUse;
            default: return found.stale ? 1 : 0;
        }
    }

    public int statement(int statement, int what) {
        if (statement < 0 || what < 0 || what > 3) {
            return INVALID_ARGUMENT;
        }
        int session = now.sessionWith(statement);
        if (session < 0 || session >= SESSIONS) {
            return NOT_FOUND;
        }
        Work work = now.sessions[session].workOf(statement);
        if (work == null) {
            return NOT_FOUND;
        }
        switch (what) {
            case 0: return session;
            case 1: return work.tables;
            case 2: return work.startedAt;
            default: return work.outrunBy(now.version);
        }
    }

    public int notice(int notice) {
        if (notice < 0) {
            return INVALID_ARGUMENT;
        }
        return notice < now.notices ? now.noticeTable[notice] : NOT_FOUND;
    }

    public int count(int what) {
        switch (what) {
            case 0: return now.ticks;
            case 1: return now.notices;
            case 2: return now.started;
            case 3: return now.statementsAtWork();
            case 4: return recorded;
            case 5: return text.length;
            case 6: return hasKept ? 1 : 0;
            case 7: return now.tablesThatCanChange();
            case 8: return now.loadsOfAll();
            case 20: return now.delay;
            case 21: return now.room;
            default: return INVALID_ARGUMENT;
        }
    }

    // ---- what would be

    public int would(int session, int tables, int what) {
        if (session < 0 || session >= SESSIONS || what < 0 || what > 3) {
            return INVALID_ARGUMENT;
        }
        trial.copyFrom(now);
        int answer = trial.begin(session, tables);
        if (answer < 0) {
            return answer;
        }
        Session before = now.sessions[session];
        Session after = trial.sessions[session];
        switch (what) {
            case 0: return after.hits - before.hits;
            case 1: return after.loads - before.loads;
            case 2: return after.drops - before.drops;
            default: return after.known - before.known;
        }
    }

    public int inTheWay(int table) {
        if (table < 0 || table >= TABLES) {
            return INVALID_ARGUMENT;
        }
        int lowest = NOT_FOUND;
        for (int i = 0; i < SESSIONS; i++) {
            int found = now.sessions[i].lowestBehind(table, now.version[table]);
            if (found >= 0 && (lowest < 0 || found < lowest)) {
                lowest = found;
            }
        }
        return lowest;
    }

    public int bestRoom(int what) {
        if (what < 0 || what > 1) {
            return INVALID_ARGUMENT;
        }
        if (now.started == 0) {
            return NOT_FOUND;
        }
        int leastRoom = NONE;
        int fewestLoads = NONE;
        for (int room = 1; room <= MOST_ROOM; room++) {
            int loads = loadsWithRoom(room);
            if (loads >= 0 && (fewestLoads < 0 || loads < fewestLoads)) {
                leastRoom = room;
                fewestLoads = loads;
            }
        }
        return what == 0 ? leastRoom : fewestLoads;
    }

    /** The loads of the latest statements done once more on a new state, or NONE if one cannot start. */
    private int loadsWithRoom(int room) {
        trial.clear();
        trial.room = room;
        for (int i = Math.max(0, now.started - LATEST_STATEMENTS); i < now.started; i++) {
            int place = i % LATEST_STATEMENTS;
            int number = trial.begin(now.latestSession[place], now.latestTables[place]);
            if (number < 0) {
                return NONE;
            }
            trial.finish(number);
        }
        return trial.loadsOfAll();
    }

    // ---- snapshot, undo

    public int keep() {
        kept.copyFrom(now);
        hasKept = true;
        return kept.ticks;
    }

    public int restore() {
        if (!hasKept) {
            return NOT_POSSIBLE;
        }
        trial.copyFrom(kept);
        return settle(trial.ticks);
    }

    public int undo() {
        if (recorded <= 0) {
            return NOT_POSSIBLE;
        }
        recorded--;
        State before = history[recorded];
        history[recorded] = now;
        now = before;
        return recorded;
    }

    /** Makes the trial the present state if the answer is no error, and hands the answer on. */
    private int settle(int answer) {
        if (answer >= 0) {
            record();
        }
        return answer;
    }

    private void record() {
        State free = history[0];
        if (recorded < MOST_STATES) {
            free = history[recorded];
            recorded++;
        } else {
            for (int i = 1; i < MOST_STATES; i++) {
                history[i - 1] = history[i];
            }
        }
        history[recorded - 1] = now;
        now = trial;
        trial = free;
    }

    // ---- texts

    public int type(int character) {
        if (character < FIRST_SIGN || character > LAST_SIGN) {
            return INVALID_ARGUMENT;
        }
        if (text.length >= LONGEST_TEXT) {
            return LIMIT_REACHED;
        }
        text.signs[text.length] = character;
        text.length++;
        return text.length;
    }

    public int clearText() {
        int before = text.length;
        text.length = 0;
        return before;
    }

    public int fault(int what) {
        if (what < 0 || what > 2) {
            return INVALID_ARGUMENT;
        }
        doCommands();
        if (faultReason == 0) {
            return NOT_FOUND;
        }
        switch (what) {
            case 0: return faultPosition;
            case 1: return faultReason;
            default: return faultReason == REFUSED ? faultCause : NOT_FOUND;
        }
    }

    public int play() {
        int done = doCommands();
        return settle(faultReason == 0 ? done : NOT_POSSIBLE);
    }

    /** Does the commands of the text on the trial up to the fault, and returns how many it did. */
    private int doCommands() {
        trial.copyFrom(now);
        faultReason = 0;
        int from = 0;
        for (int done = 0; done < LONGEST_TEXT; done++) {
            if (from >= text.length) {
                return done;
            }
            if (!text.readCommand(from)) {
                noteFault(from, NOT_OF_THE_FORM, 0);
                return done;
            }
            int answer = trial.obey(text.letter, text.first, text.second);
            if (answer < 0) {
                noteFault(from, REFUSED, answer);
                return done;
            }
            from = text.behind;
        }
        return LONGEST_TEXT;
    }

    private void noteFault(int position, int reason, int cause) {
        faultPosition = position;
        faultReason = reason;
        faultCause = cause;
    }

    private static boolean contains(int set, int number) {
        return (set >> number & 1) == 1;
    }

    /** All that a change can change: what the history and the snapshot keep. */
    private static final class State {
        int ticks;
        int delay;
        int room;
        final int[] version;
        final int[] shape;
        int notices;
        final int[] noticeTable;
        final int[] noticeDue;
        int started;
        /** The latest statements, that with number n at place n modulo LATEST_STATEMENTS. */
        final int[] latestSession;
        final int[] latestTables;
        final Session[] sessions;

        State() {
            version = new int[TABLES];
            shape = new int[TABLES];
            noticeTable = new int[MOST_NOTICES];
            noticeDue = new int[MOST_NOTICES];
            latestSession = new int[LATEST_STATEMENTS];
            latestTables = new int[LATEST_STATEMENTS];
            sessions = new Session[SESSIONS];
            for (int i = 0; i < SESSIONS; i++) {
                sessions[i] = new Session();
            }
        }

        void clear() {
            ticks = 0;
            delay = FIRST_DELAY;
            room = FIRST_ROOM;
            notices = 0;
            started = 0;
            for (int table = 0; table < TABLES; table++) {
                version[table] = 0;
                shape[table] = 1;
            }
            for (int i = 0; i < SESSIONS; i++) {
                sessions[i].clear();
            }
        }

        void copyFrom(State other) {
            ticks = other.ticks;
            delay = other.delay;
            room = other.room;
            notices = other.notices;
            started = other.started;
            for (int table = 0; table < TABLES; table++) {
                version[table] = other.version[table];
                shape[table] = other.shape[table];
            }
            for (int i = 0; i < notices && i < MOST_NOTICES; i++) {
                noticeTable[i] = other.noticeTable[i];
                noticeDue[i] = other.noticeDue[i];
            }
            for (int i = 0; i < LATEST_STATEMENTS; i++) {
                latestSession[i] = other.latestSession[i];
                latestTables[i] = other.latestTables[i];
            }
            for (int i = 0; i < SESSIONS; i++) {
                sessions[i].copyFrom(other.sessions[i]);
            }
        }

        int obey(int letter, int first, int second) {
            switch (letter) {
                case 'c': return changeTable(first, second);
                case 's': return begin(first, second);
                case 'e': return finish(first);
                case 't': return pass(first);
                default: return INVALID_ARGUMENT;
            }
        }

        int changeTable(int table, int column) {
            if (table < 0 || table >= TABLES || column < 0 || column >= COLUMNS) {
                return INVALID_ARGUMENT;
            }
            int changed = shape[table] ^ 1 << column;
            if (changed == 0 || !canChange(table)) {
                return NOT_POSSIBLE;
            }
            if (notices >= MOST_NOTICES) {
                return LIMIT_REACHED;
            }
            shape[table] = changed;
            version[table]++;
            noticeTable[notices] = table;
            noticeDue[notices] = ticks + delay;
            notices++;
            if (delay == 0) {
                arrive(notices - 1);
            }
            return version[table];
        }

        /** If it cannot start, the state is left half done: it is for a trial alone. */
        int begin(int session, int tables) {
            if (session < 0 || session >= SESSIONS || tables < 1 || tables > ALL_TABLES) {
                return INVALID_ARGUMENT;
            }
            Session asker = sessions[session];
            Work work = asker.idleWork();
            if (work == null || started >= MOST_STATEMENTS) {
                return LIMIT_REACHED;
            }
            if (asker.known < notices) {
                asker.learn(notices, noticeTable, version);
                asker.asksThatHelped++;
            }
            work.number = started;
            work.tables = tables;
            work.startedAt = ticks;
            for (int table = 0; table < TABLES; table++) {
                if (contains(tables, table) && !asker.use(work, table, version[table], shape[table], room)) {
                    return LIMIT_REACHED;
                }
            }
            latestSession[started % LATEST_STATEMENTS] = session;
            latestTables[started % LATEST_STATEMENTS] = tables;
            started++;
            return work.number;
        }

        int finish(int statement) {
            if (statement < 0) {
                return INVALID_ARGUMENT;
            }
            for (int i = 0; i < SESSIONS; i++) {
                Work work = sessions[i].workOf(statement);
                if (work != null) {
                    return sessions[i].release(work, room);
                }
            }
            return NOT_POSSIBLE;
        }

        int pass(int wanted) {
            if (wanted < 1 || wanted > MOST_TICKS) {
                return INVALID_ARGUMENT;
            }
            int came = 0;
            // No notice is on its way for longer than this, so the ticks after it bring none.
            int bringing = Math.min(wanted, SLOWEST_NOTICE);
            for (int passed = 1; passed <= bringing; passed++) {
                for (int i = 0; i < notices && i < MOST_NOTICES; i++) {
                    if (noticeDue[i] == ticks + passed) {
                        arrive(i);
                        came += SESSIONS;
                    }
                }
            }
            ticks += wanted;
            return came;
        }

        private void arrive(int number) {
            for (int i = 0; i < SESSIONS; i++) {
                if (sessions[i].known > number) {
                    sessions[i].lateNotices++;
                } else {
                    sessions[i].learn(number + 1, noticeTable, version);
                }
            }
        }

        int adjust(int what, int value) {
            if (what == 0 && value >= 0 && value <= SLOWEST_NOTICE) {
                int before = delay;
                delay = value;
                return before;
            }
            if (what == 1 && value >= 1 && value <= MOST_ROOM) {
                int before = room;
                room = value;
                for (int i = 0; i < SESSIONS; i++) {
                    sessions[i].shrinkTo(room);
                }
                return before;
            }
            return INVALID_ARGUMENT;
        }

        boolean canChange(int table) {
            int least = leastVersionAtWork(table);
            return least < 0 || least >= version[table];
        }

        int leastVersionAtWork(int table) {
            int least = NOT_FOUND;
            for (int i = 0; i < SESSIONS; i++) {
                int found = sessions[i].leastVersionAtWork(table);
                if (found >= 0 && (least < 0 || found < least)) {
                    least = found;
                }
            }
            return least;
        }

        int handsWith(int table) {
            int hands = 0;
            for (int i = 0; i < SESSIONS; i++) {
                if (sessions[i].freshEntryOf(table) >= 0) {
                    hands++;
                }
            }
            return hands;
        }

        int tablesThatCanChange() {
            int set = 0;
            for (int table = 0; table < TABLES; table++) {
                if (canChange(table)) {
                    set |= 1 << table;
                }
            }
            return set;
        }

        /** The same for every session: each notice is on its way to all of them for the same ticks. */
        int noticesOnTheirWay() {
            int onTheirWay = 0;
            for (int i = 0; i < notices && i < MOST_NOTICES; i++) {
                if (noticeDue[i] > ticks) {
                    onTheirWay++;
                }
            }
            return onTheirWay;
        }

        int sessionWith(int statement) {
            for (int i = 0; i < SESSIONS; i++) {
                if (sessions[i].workOf(statement) != null) {
                    return i;
                }
            }
            return NONE;
        }

        int statementsAtWork() {
            int sum = 0;
            for (int i = 0; i < SESSIONS; i++) {
                sum += sessions[i].statementsAtWork();
            }
            return sum;
        }

        int loadsOfAll() {
            int sum = 0;
            for (int i = 0; i < SESSIONS; i++) {
                sum += sessions[i].loads;
            }
            return sum;
        }
    }

    /** A session with its hand and its statements that have not ended. */
    private static final class Session {
        int known;
        int hits;
        int loads;
        int drops;
        int asksThatHelped;
        int lateNotices;
        int inHand;
        /** Sorted by tables and versions; the places from inHand on hold entries that are free for use. */
        final Entry[] hand;
        final Work[] works;

        Session() {
            hand = new Entry[MOST_ROOM];
            for (int i = 0; i < MOST_ROOM; i++) {
                hand[i] = new Entry();
            }
            works = new Work[STATEMENTS_AT_ONCE];
            for (int i = 0; i < STATEMENTS_AT_ONCE; i++) {
                works[i] = new Work();
            }
        }

        void clear() {
            known = 0;
            hits = 0;
            loads = 0;
            drops = 0;
            asksThatHelped = 0;
            lateNotices = 0;
            inHand = 0;
            for (int i = 0; i < STATEMENTS_AT_ONCE; i++) {
                works[i].number = NONE;
            }
        }

        void copyFrom(Session other) {
            known = other.known;
            hits = other.hits;
            loads = other.loads;
            drops = other.drops;
            asksThatHelped = other.asksThatHelped;
            lateNotices = other.lateNotices;
            inHand = other.inHand;
            for (int i = 0; i < inHand && i < MOST_ROOM; i++) {
                hand[i].copyFrom(other.hand[i]);
            }
            for (int i = 0; i < STATEMENTS_AT_ONCE; i++) {
                works[i].copyFrom(other.works[i]);
            }
        }

        /** Learns of the notices that it does not know of, up to so many in all. */
        void learn(int upTo, int[] noticeTable, int[] version) {
            while (known < upTo && known < MOST_NOTICES) {
                int table = noticeTable[known];
                for (int i = inHand - 1; i >= 0; i--) {
                    if (hand[i].table == table && hand[i].version < version[table]) {
                        hand[i].stale = true;
                        if (hand[i].workers == 0) {
                            takeOut(i);
                        }
                    }
                }
                known++;
            }
        }

        /** Returns whether it could: if not, an entry would have to come into a hand that stays full. */
        boolean use(Work work, int table, int version, int shape, int room) {
            int place = freshEntryOf(table);
            if (place >= 0) {
                hits++;
            } else {
                // One goes at most: in a hand over its room a statement works by each entry.
                shrinkTo(room - 1);
                if (inHand >= room || inHand >= MOST_ROOM) {
                    return false;
                }
                place = putIn(table, version, shape);
                loads++;
            }
            Entry used = hand[place];
            used.lastUse = work.number;
            used.workers++;
            work.version[table] = used.version;
            return true;
        }

        /** Ends a statement, and returns how many entries go from the hand by that. */
        int release(Work work, int room) {
            int before = inHand;
            for (int i = inHand - 1; i >= 0; i--) {
                Entry left = hand[i];
                if (work.worksBy(left)) {
                    left.workers--;
                    if (left.stale && left.workers == 0) {
                        takeOut(i);
                    }
                }
            }
            work.number = NONE;
            shrinkTo(room);
            return before - inHand;
        }

        /** Drops entries by which no statement works until no more than so many are left. */
        void shrinkTo(int most) {
            for (int left = inHand; left > most; left--) {
                int place = longestUnused();
                if (place < 0) {
                    return;
                }
                takeOut(place);
                drops++;
            }
        }

        /** Of several entries the first is taken: the hand is sorted, so it is that of the lowest table. */
        private int longestUnused() {
            int place = NONE;
            for (int i = 0; i < inHand; i++) {
                if (hand[i].workers == 0 && (place < 0 || hand[i].lastUse < hand[place].lastUse)) {
                    place = i;
                }
            }
            return place;
        }

        private int putIn(int table, int version, int shape) {
            Entry added = hand[inHand];
            int place = inHand;
            while (place > 0 && hand[place - 1].comesBehind(table, version)) {
                hand[place] = hand[place - 1];
                place--;
            }
            hand[place] = added;
            added.table = table;
            added.version = version;
            added.shape = shape;
            added.workers = 0;
            added.stale = false;
            inHand++;
            return place;
        }

        private void takeOut(int place) {
            Entry gone = hand[place];
            inHand--;
            for (int i = place; i < inHand; i++) {
                hand[i] = hand[i + 1];
            }
            hand[inHand] = gone;
        }

        int freshEntryOf(int table) {
            for (int i = 0; i < inHand; i++) {
                if (hand[i].table == table && !hand[i].stale) {
                    return i;
                }
            }
            return NONE;
        }

        int leastVersionAtWork(int table) {
            for (int i = 0; i < inHand; i++) {
                if (hand[i].table == table && hand[i].workers > 0) {
                    return hand[i].version;
                }
            }
            return NONE;
        }

        int staleInHand() {
            int stale = 0;
            for (int i = 0; i < inHand; i++) {
                if (hand[i].stale) {
                    stale++;
                }
            }
            return stale;
        }

        int statementsAtWork() {
            int sum = 0;
            for (int i = 0; i < STATEMENTS_AT_ONCE; i++) {
                if (works[i].number >= 0) {
                    sum++;
                }
            }
            return sum;
        }

        /** The lowest statement that works by a lower version of a table, or NONE. */
        int lowestBehind(int table, int version) {
            int lowest = NONE;
            for (int i = 0; i < STATEMENTS_AT_ONCE; i++) {
                Work work = works[i];
                boolean behind = work.number >= 0 && contains(work.tables, table) && work.version[table] < version;
                if (behind && (lowest < 0 || work.number < lowest)) {
                    lowest = work.number;
                }
            }
            return lowest;
        }

        Work idleWork() {
            return workWithNumber(NONE);
        }

        Work workOf(int statement) {
            return statement < 0 ? null : workWithNumber(statement);
        }

        private Work workWithNumber(int number) {
            for (int i = 0; i < STATEMENTS_AT_ONCE; i++) {
                if (works[i].number == number) {
                    return works[i];
                }
            }
            return null;
        }
    }

    /** An entry of a hand. */
    private static final class Entry {
        int table;
        int version;
        int shape;
        int workers;
        int lastUse;
        boolean stale;

        void copyFrom(Entry other) {
            table = other.table;
            version = other.version;
            shape = other.shape;
            workers = other.workers;
            lastUse = other.lastUse;
            stale = other.stale;
        }

        boolean comesBehind(int otherTable, int otherVersion) {
            return table > otherTable || table == otherTable && version > otherVersion;
        }
    }

    /** A statement that has not ended, or a free place for one, whose number is NONE then. */
    private static final class Work {
        int number;
        int tables;
        int startedAt;
        /** The versions by which it works, of its tables alone. */
        final int[] version;

        Work() {
            number = NONE;
            version = new int[TABLES];
        }

        void copyFrom(Work other) {
            number = other.number;
            tables = other.tables;
            startedAt = other.startedAt;
            for (int table = 0; table < TABLES; table++) {
                version[table] = other.version[table];
            }
        }

        boolean worksBy(Entry entry) {
            return contains(tables, entry.table) && version[entry.table] == entry.version;
        }

        /** Those of its tables, as a set, of which there is a greater version now. */
        int outrunBy(int[] versionNow) {
            int set = 0;
            for (int table = 0; table < TABLES; table++) {
                if (contains(tables, table) && version[table] < versionNow[table]) {
                    set |= 1 << table;
                }
            }
            return set;
        }
    }

    /** The text, and what was read of it last. */
    private static final class Text {
        final int[] signs;
        int length;
        int letter;
        int first;
        int second;
        /** Where that begins which has not been read yet. */
        int behind;

        Text() {
            signs = new int[LONGEST_TEXT];
        }

        /** Reads the command at a position, and returns whether there is one of the form. */
        boolean readCommand(int from) {
            letter = signAt(from);
            behind = from + 1;
            first = readNumber();
            second = 0;
            if (letter == 'c' || letter == 's') {
                if (first < 0 || signAt(behind) != ',') {
                    return false;
                }
                behind++;
                second = readNumber();
            } else if (letter != 'e' && letter != 't') {
                return false;
            }
            if (first < 0 || second < 0 || signAt(behind) != ';') {
                return false;
            }
            behind++;
            return true;
        }

        private int signAt(int position) {
            return position >= 0 && position < length && position < LONGEST_TEXT ? signs[position] : NONE;
        }

        /** Reads digits, as many as a number may have, and returns the number, or NONE if there is no digit. */
        private int readNumber() {
            int number = NONE;
            for (int digits = 0; digits < LONGEST_NUMBER; digits++) {
                int sign = signAt(behind);
                if (sign < '0' || sign > '9') {
                    return number;
                }
                number = Math.max(number, 0) * 10 + (sign - '0');
                behind++;
            }
            return number;
        }
    }
}

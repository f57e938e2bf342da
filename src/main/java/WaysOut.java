import java.util.Arrays;

/** An auditor of refusals: what its calls answer is told, promise by promise, in DOC.md. */
public final class WaysOut {
    public static final int NONE = -1;

    private static final int ROUTINES = 8;
    private static final int KINDS = 6;
    /** What can be open: none of the two THINGS, the one, the other, both. */
    private static final int SETS = 4;
    private static final int EXITS = 1 + KINDS;

    private static final int TAPE_BYTES = 80;
    private static final int FED_BYTES = 20;
    private static final int TEXT_BYTES = 60;
    private static final int OPEN_BLOCKS = 8;
    private static final int TAKERS_OF_ONE = 6;
    /** No brace follows a brace, so every second byte at most opens a BLOCK; the TEXT itself is BLOCK 0. */
    private static final int BLOCKS = 1 + TEXT_BYTES / 2;
    /** A TAKER has three bytes at least. */
    private static final int TAKERS = TEXT_BYTES / 3;

    private static final int FAULT_STANDS = 1;
    private static final int FAULT_BLOCK = 2;
    private static final int FAULT_TAKER = 3;

    /** The ways to leave a BLOCK: 1 to 6 are refusals of KIND A to F, as in the EXITS. */
    private static final int END = 0;
    private static final int RETURN = 1 + KINDS;
    private static final int WAYS = 2 + KINDS;
    private static final int END_BIT = 1 << END;
    private static final int RETURN_BIT = 1 << RETURN;
    /** One cell for each way to leave and what is open then. */
    private static final int CELLS = WAYS * SETS;

    private static final int MOST_STEPS = 999;
    /** Stands for 'can't be': so high that no sum of STEPS comes near it, so low that sums of it don't wrap. */
    private static final int FAR = 1_000_000;
    /**
     * The shortest RUN to one of the 896 cells of Exits needs no cell twice, one within the other,
     * and each pass goes one call deeper: no more passes than cells change anything.
     */
    private static final int PASSES = 1_000;

    private final Tape tape = new Tape();
    private final Reader reader = new Reader();
    private final Kinds kinds = new Kinds();
    private final Told[] routines = new Told[ROUTINES];
    private final int[] promised = new int[ROUTINES];
    private final Exits exits = new Exits();
    private final Measurer measurer = new Measurer(kinds, exits);
    private final Tracer tracer = new Tracer(kinds, exits, measurer);
    /** Where the next TEXT is read, so that a FAULT leaves the one that stands. */
    private Told spare = new Told();
    private int faultNumber = 0;
    private int faultPlace = NONE;
    /** ROUTINES (bits) whose row of exits is up to date; then those that they call are, too. */
    private int measured = 0;
    /** ROUTINES (bits) whose TAKEN and LOST are up to date. */
    private int traced = 0;

    public WaysOut() {
        for (int r = 0; r < ROUTINES; r++) {
            routines[r] = new Told();
        }
    }

    public int feed(int a, int b, int c, int d, int e) {
        if (tape.size() + FED_BYTES > TAPE_BYTES) {
            return NONE;
        }
        tape.add(a);
        tape.add(b);
        tape.add(c);
        tape.add(d);
        tape.add(e);
        return tape.size();
    }

    public int text(int r, int n) {
        if (!isRoutine(r) || n < 0 || n > TEXT_BYTES || n > tape.size()) {
            return NONE;
        }
        spare.copy(tape, n);
        tape.clear();
        reader.read(spare);
        faultNumber = reader.number();
        faultPlace = reader.place();
        if (faultNumber != 0) {
            return 100 * faultNumber + faultPlace;
        }
        Told old = routines[r];
        routines[r] = spare;
        spare = old;
        forget(r);
        return 0;
    }

    public boolean under(int k, int of) {
        if (!kinds.place(k, of)) {
            return false;
        }
        measured = 0;
        traced = 0;
        return true;
    }

    public boolean promise(int r, int kinds) {
        if (!isRoutine(r) || kinds < 0 || kinds >= 1 << KINDS) {
            return false;
        }
        promised[r] = kinds;
        return true;
    }

    public int steps(int r, int s, int exit, int t) {
        if (!isRoutine(r) || !isSet(s) || !isExit(exit) || !isSet(t)) {
            return NONE;
        }
        measure(r);
        int fewest = exits.fewest(r, s, exit, t);
        return fewest < FAR ? fewest : NONE;
    }

    public int leaves(int r, int s) {
        if (!isRoutine(r) || !isSet(s)) {
            return NONE;
        }
        measure(r);
        return leavingKinds(r, s);
    }

    public int ends(int r, int s) {
        if (!isRoutine(r) || !isSet(s)) {
            return NONE;
        }
        measure(r);
        return bit(exits.canLeave(r, s, 0));
    }

    public int due(int r, int i) {
        if (!isRoutine(r) || i < 0) {
            return NONE;
        }
        measure(r);
        int before = 0;
        for (int exit = 0; exit < EXITS; exit++) {
            for (int t = 1; t < SETS; t++) {
                if (exits.fewest(r, 0, exit, t) < FAR) {
                    if (before == i) {
                        return SETS * exit + t;
                    }
                    before++;
                }
            }
        }
        return NONE;
    }

    public int takers(int r) {
        return isRoutine(r) ? routines[r].takerCount() : NONE;
    }

    public int taker(int r, int h, int what) {
        if (!isRoutine(r) || h < 0 || h >= routines[r].takerCount()) {
            return NONE;
        }
        if (what > 1) {
            measure(r);
            trace(r);
        }
        Told told = routines[r];
        switch (what) {
            case 0:
                return told.takerKind(h);
            case 1:
                return told.takerPlace(h);
            case 2:
                return told.takenKinds(h);
            case 3:
                return bit(told.takenKinds(h) != 0 && told.isEmptyTaker(h));
            case 4:
                return bit(told.takenKinds(h) == 0);
            default:
                return NONE;
        }
    }

    public int lost(int r) {
        if (!isRoutine(r)) {
            return NONE;
        }
        measure(r);
        trace(r);
        return routines[r].lostKinds();
    }

    public int broken(int r) {
        if (!isRoutine(r)) {
            return NONE;
        }
        measure(r);
        int leaving = leavingKinds(r, 0);
        int answer = 0;
        for (int k = 0; k < KINDS; k++) {
            if (has(leaving, k) && (kinds.above(k) & promised[r]) == 0) {
                answer |= 1 << k;
            }
        }
        return answer;
    }

    public int idle(int r) {
        if (!isRoutine(r)) {
            return NONE;
        }
        measure(r);
        int leaving = leavingKinds(r, 0);
        int answer = promised[r];
        for (int k = 0; k < KINDS; k++) {
            if (has(leaving, k)) {
                answer &= ~kinds.above(k);
            }
        }
        return answer;
    }

    public int look(int r, int what) {
        if (!isRoutine(r)) {
            return NONE;
        }
        switch (what) {
            case 0:
                return routines[r].length();
            case 1:
                return routines[r].calls();
            case 2:
                return comesTo(r);
            case 3:
                return promised[r];
            default:
                return what < 100 ? NONE : routines[r].at(what - 100);
        }
    }

    public int is(int k, int of) {
        if (!isKind(k) || !isKind(of)) {
            return NONE;
        }
        return bit(has(kinds.above(k), of));
    }

    public int fault(int what) {
        switch (what) {
            case 0:
                return faultNumber;
            case 1:
                return faultPlace;
            case 2:
                return tape.size();
            default:
                return NONE;
        }
    }

    private static boolean isRoutine(int r) {
        return r >= 0 && r < ROUTINES;
    }

    private static boolean isKind(int k) {
        return k >= 0 && k < KINDS;
    }

    private static boolean isSet(int s) {
        return s >= 0 && s < SETS;
    }

    private static boolean isExit(int exit) {
        return exit >= 0 && exit < EXITS;
    }

    private static boolean has(int bits, int i) {
        return (bits >> i & 1) == 1;
    }

    private static int bit(boolean truth) {
        return truth ? 1 : 0;
    }

    /** Lowers the cost in a row, if the way there can be gone at all. */
    private static void lower(int[] row, int i, int cost) {
        if (i < 0 || i >= row.length || cost >= FAR) {
            return;
        }
        int counted = cost > MOST_STEPS ? MOST_STEPS : cost;
        if (counted < row[i]) {
            row[i] = counted;
        }
    }

    private int leavingKinds(int r, int s) {
        int answer = 0;
        for (int k = 0; k < KINDS; k++) {
            if (exits.canLeave(r, s, 1 + k)) {
                answer |= 1 << k;
            }
        }
        return answer;
    }

    /** ROUTINES (bits) that r comes to by one call or more. */
    private int comesTo(int r) {
        int answer = routines[r].calls();
        for (int n = 0; n < ROUTINES; n++) {
            for (int q = 0; q < ROUTINES; q++) {
                if (has(answer, q)) {
                    answer |= routines[q].calls();
                }
            }
        }
        return answer;
    }

    private int callersOf(int r) {
        int answer = 0;
        for (int q = 0; q < ROUTINES; q++) {
            if (has(routines[q].calls(), r)) {
                answer |= 1 << q;
            }
        }
        return answer;
    }

    /** A new TEXT changes what is known of its ROUTINE and of all that come to it. */
    private void forget(int r) {
        int changed = 1 << r;
        for (int q = 0; q < ROUTINES; q++) {
            if (has(comesTo(q), r)) {
                changed |= 1 << q;
            }
        }
        measured &= ~changed;
        traced &= ~changed;
    }

    /**
     * Brings the exits of r, and of all that it comes to, up to date: from 'can't be left' on,
     * each is measured again as long as one that it calls has got better.
     */
    private void measure(int r) {
        if (has(measured, r)) {
            return;
        }
        int wanted = (1 << r | comesTo(r)) & ~measured;
        for (int q = 0; q < ROUTINES; q++) {
            if (has(wanted, q)) {
                exits.clear(q);
            }
        }
        int open = wanted;
        for (int pass = 0; pass < PASSES && open != 0; pass++) {
            for (int q = 0; q < ROUTINES; q++) {
                if (has(open, q)) {
                    open &= ~(1 << q);
                    measurer.measureAll(routines[q]);
                    if (measurer.tellExits(q)) {
                        open |= wanted & callersOf(q);
                    }
                }
            }
        }
        measured |= wanted;
    }

    /** Brings TAKEN and LOST of r up to date, whose exits are so already. */
    private void trace(int r) {
        if (has(traced, r)) {
            return;
        }
        measurer.measureAll(routines[r]);
        tracer.traceAll(routines[r]);
        traced |= 1 << r;
    }

    /** The bytes that have been fed and not yet been made a TEXT. */
    private static final class Tape {
        private final int[] bytes = new int[TAPE_BYTES];
        private int size = 0;

        int size() {
            return size;
        }

        int at(int i) {
            return i >= 0 && i < size && i < bytes.length ? bytes[i] : NONE;
        }

        void add(int word) {
            for (int shift = 24; shift >= 0 && size < bytes.length; shift -= 8) {
                bytes[size] = word >>> shift & 255;
                size++;
            }
        }

        void clear() {
            size = 0;
        }
    }

    /** Which KIND lies UNDER which. */
    private static final class Kinds {
        private final int[] parent = new int[KINDS];
        /** Of each KIND, the KINDS (bits) that it IS of. */
        private final int[] above = new int[KINDS];

        Kinds() {
            Arrays.fill(parent, NONE);
            findAbove();
        }

        int above(int k) {
            return isKind(k) ? above[k] : 0;
        }

        boolean place(int k, int of) {
            if (!isKind(k) || of != NONE && !isKind(of) || has(above(of), k)) {
                return false;
            }
            parent[k] = of;
            findAbove();
            return true;
        }

        private void findAbove() {
            for (int k = 0; k < KINDS; k++) {
                above[k] = 0;
                int up = k;
                for (int n = 0; n < KINDS && isKind(up); n++) {
                    above[k] |= 1 << up;
                    up = parent[up];
                }
            }
        }
    }

    /** The TEXT of a ROUTINE, with its BLOCKS and TAKERS and what has been traced of them. */
    private static final class Told {
        private final int[] bytes = new int[TEXT_BYTES];
        private int length = 0;
        /** The number of the BLOCK whose brace stands at a place. */
        private final int[] blockAt = new int[TEXT_BYTES];
        /** By BLOCK: its first place behind the brace, and the place of the closing brace. */
        private final int[] first = new int[BLOCKS];
        private final int[] close = new int[BLOCKS];
        /** By BLOCK: the KIND of the innermost TAKER in which it stands. */
        private final int[] keeper = new int[BLOCKS];
        /** By BLOCK: whether it raises again what was taken around it, so that this tells how it is left. */
        private final boolean[] again = new boolean[BLOCKS];
        /** By BLOCK: TAKEN, if it is a TAKER's. */
        private final int[] taken = new int[BLOCKS];
        private int blocks = 1;
        private final int[] takerPlaces = new int[TAKERS];
        private int takerCount = 0;
        private int calls = 0;
        private int lostKinds = 0;

        Told() {
            keeper[0] = NONE;
        }

        void copy(Tape tape, int n) {
            length = 0;
            for (int i = 0; i < n && i < bytes.length; i++) {
                bytes[i] = tape.at(i);
                length++;
            }
            blocks = 0;
            takerCount = 0;
            calls = 0;
        }

        int length() {
            return length;
        }

        int at(int i) {
            return i >= 0 && i < length && i < bytes.length ? bytes[i] : NONE;
        }

        /** The KIND that stands at a place. */
        int kindAt(int i) {
            int kind = at(i) - 'A';
            return isKind(kind) ? kind : NONE;
        }

        int openBlock(int from, int keptBy) {
            if (blocks >= BLOCKS) {
                return NONE;
            }
            int b = blocks;
            blocks++;
            first[b] = from;
            close[b] = from;
            keeper[b] = keptBy;
            again[b] = false;
            if (from > 0 && from <= blockAt.length) {
                blockAt[from - 1] = b;
            }
            return b;
        }

        void closeBlock(int b, int place) {
            if (isBlock(b)) {
                close[b] = place;
            }
        }

        boolean isBlock(int b) {
            return b >= 0 && b < blocks && b < BLOCKS;
        }

        int blocks() {
            return blocks;
        }

        int blockAt(int place) {
            return at(place) == '{' ? blockAt[place] : NONE;
        }

        int firstOf(int b) {
            return isBlock(b) ? first[b] : length;
        }

        int closeOf(int b) {
            return isBlock(b) ? close[b] : length;
        }

        int keeperOf(int b) {
            return isBlock(b) ? keeper[b] : NONE;
        }

        boolean raisesAgain(int b) {
            return b >= 0 && b < again.length && again[b];
        }

        void markAgain(int b) {
            if (isBlock(b)) {
                again[b] = true;
            }
        }

        int calls() {
            return calls;
        }

        void addCall(int r) {
            calls |= isRoutine(r) ? 1 << r : 0;
        }

        void addTaker(int place) {
            if (takerCount < takerPlaces.length) {
                takerPlaces[takerCount] = place;
                takerCount++;
            }
        }

        int takerCount() {
            return takerCount;
        }

        int takerPlace(int h) {
            return h >= 0 && h < takerCount && h < takerPlaces.length ? takerPlaces[h] : NONE;
        }

        int takerKind(int h) {
            return kindAt(takerPlace(h));
        }

        boolean isEmptyTaker(int h) {
            int b = blockAt(takerPlace(h) + 1);
            return firstOf(b) == closeOf(b);
        }

        int takenKinds(int h) {
            int b = blockAt(takerPlace(h) + 1);
            return isBlock(b) ? taken[b] : 0;
        }

        int lostKinds() {
            return lostKinds;
        }

        void clearTraces() {
            Arrays.fill(taken, 0);
            lostKinds = 0;
        }

        void addTaken(int b, int k) {
            if (isBlock(b) && isKind(k)) {
                taken[b] |= 1 << k;
            }
        }

        void addLost(int kinds) {
            lostKinds |= kinds;
        }

        /** Of the TAKERS from a place on, the BLOCK of the first one whose KIND is among these. */
        int takerOf(int place, int above) {
            int i = place;
            for (int n = 0; n < TAKERS_OF_ONE && kindAt(i) != NONE; n++) {
                int b = blockAt(i + 1);
                if (has(above, kindAt(i))) {
                    return b;
                }
                i = closeOf(b) + 1;
            }
            return NONE;
        }

        /** The place behind the TAKERS that stand from a place on. */
        int behindTakers(int place) {
            int i = place;
            for (int n = 0; n < TAKERS_OF_ONE && kindAt(i) != NONE; n++) {
                i = closeOf(blockAt(i + 1)) + 1;
            }
            return i;
        }
    }

    /** Reads a TEXT from the left and stops at its first FAULT. Its methods answer the place behind what they read. */
    private static final class Reader {
        private Told told = new Told();
        private int number = 0;
        private int place = NONE;

        int number() {
            return number;
        }

        int place() {
            return place;
        }

        void read(Told fresh) {
            told = fresh;
            number = 0;
            place = NONE;
            int whole = told.openBlock(0, NONE);
            int end = readStatements(0, 0, whole);
            if (end != NONE && end < told.length()) {
                refuse(FAULT_STANDS, end);
            }
            told.closeBlock(whole, told.length());
        }

        private int refuse(int which, int where) {
            number = which;
            place = where;
            return NONE;
        }

        private int readStatements(int from, int depth, int own) {
            int i = from;
            for (int n = 0; n < TEXT_BYTES && i != NONE && i < told.length() && told.at(i) != '}'; n++) {
                i = readStatement(i, depth, own);
            }
            return i;
        }

        private int readStatement(int i, int depth, int own) {
            int next = told.at(i + 1);
            switch (told.at(i)) {
                case '!':
                    return behindPair(i, told.kindAt(i + 1) != NONE);
                case '@':
                    told.addCall(next - 'a');
                    return behindPair(i, isRoutine(next - 'a'));
                case '+':
                case '-':
                    return behindPair(i, next == '0' || next == '1');
                case '.':
                    return i + 1;
                case '^':
                    told.markAgain(own);
                    return told.keeperOf(own) == NONE ? refuse(FAULT_STANDS, i) : i + 1;
                case '?':
                    int second = readBlock(i + 1, depth, own, NONE);
                    return second == NONE ? NONE : readBlock(second, depth, own, NONE);
                case '*':
                    return readBlock(i + 1, depth, own, NONE);
                case 'T':
                    return readTaking(i + 1, depth, own);
                default:
                    return refuse(FAULT_STANDS, i);
            }
        }

        private int behindPair(int i, boolean fits) {
            return fits ? i + 2 : refuse(FAULT_STANDS, i + 1);
        }

        /** Reads the BLOCK of a TAKER of a KIND, or (NONE) another one, that stands in the BLOCK own. */
        private int readBlock(int i, int depth, int own, int kind) {
            if (told.at(i) != '{') {
                return refuse(FAULT_STANDS, i);
            }
            if (depth >= OPEN_BLOCKS) {
                return refuse(FAULT_BLOCK, i);
            }
            int b = told.openBlock(i + 1, kind == NONE ? told.keeperOf(own) : kind);
            int end = readStatements(i + 1, depth + 1, b);
            if (end == NONE) {
                return NONE;
            }
            if (told.at(end) != '}') {
                return refuse(FAULT_STANDS, end);
            }
            told.closeBlock(b, end);
            if (kind == NONE && told.raisesAgain(b)) {
                told.markAgain(own);
            }
            return end + 1;
        }

        private int readTaking(int i, int depth, int own) {
            int at = readBlock(i, depth, own, NONE);
            int count = 0;
            while (count <= TAKERS_OF_ONE && at != NONE && told.kindAt(at) != NONE) {
                if (count == TAKERS_OF_ONE) {
                    return refuse(FAULT_TAKER, at);
                }
                told.addTaker(at);
                at = readBlock(at + 1, depth, own, told.kindAt(at));
                count++;
            }
            if (at != NONE && told.at(at) == 'Z') {
                return readBlock(at + 1, depth, own, NONE);
            }
            return at != NONE && count == 0 ? refuse(FAULT_STANDS, at) : at;
        }
    }

    /** Fewest STEPS of each ROUTINE, by what is open at first, EXIT, and what is open at last. */
    private static final class Exits {
        private final int[] cells = new int[ROUTINES * SETS * EXITS * SETS];

        private int cell(int r, int s, int exit, int t) {
            boolean known = isRoutine(r) && isSet(s) && isExit(exit) && isSet(t);
            return known ? ((r * SETS + s) * EXITS + exit) * SETS + t : NONE;
        }

        int fewest(int r, int s, int exit, int t) {
            int i = cell(r, s, exit, t);
            return i >= 0 && i < cells.length ? cells[i] : FAR;
        }

        boolean canLeave(int r, int s, int exit) {
            for (int t = 0; t < SETS; t++) {
                if (fewest(r, s, exit, t) < FAR) {
                    return true;
                }
            }
            return false;
        }

        /** Answers whether the cell has changed. */
        boolean put(int r, int s, int exit, int t, int cost) {
            int i = cell(r, s, exit, t);
            if (i < 0 || i >= cells.length || cells[i] == cost) {
                return false;
            }
            cells[i] = cost;
            return true;
        }

        void clear(int r) {
            for (int s = 0; s < SETS; s++) {
                for (int exit = 0; exit < EXITS; exit++) {
                    for (int t = 0; t < SETS; t++) {
                        put(r, s, exit, t, FAR);
                    }
                }
            }
        }
    }

    /**
     * Measures, of one TEXT, in how few STEPS each BLOCK is left by each way, from what is open
     * at its brace; what the ROUTINES that it calls need is taken from the exits as they stand.
     */
    private static final class Measurer {
        private final Kinds kinds;
        private final Exits exits;
        private Told told = new Told();
        /** By BLOCK, the KIND that was taken around it (0 if it doesn't matter), and what is open: a row of CELLS. */
        private final int[] rows = new int[BLOCKS * KINDS * SETS * CELLS];
        /** STEPS to the STATEMENT that is reached, by what is open there. */
        private final int[] here = new int[SETS];
        private final int[] moved = new int[SETS];
        /** STEPS by which the BLOCK that is measured is left before its end. */
        private final int[] gone = new int[CELLS];
        /** STEPS by which parts of a STATEMENT are left. */
        private final int[] part = new int[CELLS];
        private final int[] taken = new int[CELLS];

        Measurer(Kinds kinds, Exits exits) {
            this.kinds = kinds;
            this.exits = exits;
        }

        /** A BLOCK's number is higher than that of the one in which it stands: the inner ones come first. */
        void measureAll(Told text) {
            told = text;
            for (int b = told.blocks() - 1; b >= 0; b--) {
                for (int k = 0; k < KINDS; k++) {
                    if (matters(b, k)) {
                        for (int s = 0; s < SETS; s++) {
                            measureBlock(b, k, s);
                        }
                    }
                }
            }
        }

        /** Whether any exit of the ROUTINE that was measured has changed. */
        boolean tellExits(int r) {
            boolean changed = false;
            for (int s = 0; s < SETS; s++) {
                int row = rowOf(0, 0, s);
                for (int exit = 0; exit < EXITS; exit++) {
                    for (int t = 0; t < SETS; t++) {
                        int cost = cell(row, exit, t);
                        if (exit == END) {
                            cost = Math.min(cost, cell(row, RETURN, t));
                        }
                        changed |= exits.put(r, s, exit, t, cost);
                    }
                }
            }
            return changed;
        }

        /**
         * The ways (bits) by which a BLOCK can be left. No STATEMENT asks what is open, so they are the same
         * for all that can be open at its brace: the row for nothing open serves.
         */
        int waysOf(int b, int k) {
            int row = rowOf(b, k, 0);
            int ways = 0;
            for (int way = 0; way < WAYS; way++) {
                for (int t = 0; t < SETS; t++) {
                    if (cell(row, way, t) < FAR) {
                        ways |= 1 << way;
                    }
                }
            }
            return ways;
        }

        private boolean matters(int b, int k) {
            return told.raisesAgain(b) ? has(kinds.above(k), told.keeperOf(b)) : k == 0;
        }

        private int rowOf(int b, int k, int s) {
            if (!told.isBlock(b) || !isKind(k) || !isSet(s)) {
                return NONE;
            }
            int kind = told.raisesAgain(b) ? k : 0;
            return ((b * KINDS + kind) * SETS + s) * CELLS;
        }

        private int cell(int row, int way, int t) {
            int i = row + way * SETS + t;
            return row >= 0 && i >= 0 && i < rows.length ? rows[i] : FAR;
        }

        private void measureBlock(int b, int k, int s) {
            begin(s);
            int place = told.firstOf(b);
            int close = told.closeOf(b);
            for (int n = 0; n < TEXT_BYTES && place < close && isReached(); n++) {
                int next = told.at(place + 1);
                switch (told.at(place)) {
                    case '!':
                        leaveBy(1 + next - 'A');
                        place += 2;
                        break;
                    case '^':
                        leaveBy(1 + k);
                        place++;
                        break;
                    case '.':
                        leaveBy(RETURN);
                        place++;
                        break;
                    case '+':
                    case '-':
                        turn(next == '1' ? 2 : 1, told.at(place) == '+');
                        place += 2;
                        break;
                    case '@':
                        call(next - 'a');
                        place += 2;
                        break;
                    case '?':
                        place = choose(place + 1, k);
                        break;
                    case '*':
                        place = repeat(place + 1, k);
                        break;
                    case 'T':
                        place = take(place + 1, k);
                        break;
                    default:
                        place++;
                }
            }
            store(rowOf(b, k, s));
        }

        private void begin(int s) {
            Arrays.fill(here, FAR);
            lower(here, s, 0);
            Arrays.fill(gone, FAR);
        }

        private boolean isReached() {
            for (int s = 0; s < SETS; s++) {
                if (here[s] < FAR) {
                    return true;
                }
            }
            return false;
        }

        private void store(int row) {
            for (int t = 0; t < SETS; t++) {
                lower(gone, END * SETS + t, here[t]);
            }
            for (int i = 0; i < CELLS && row >= 0 && row + i < rows.length; i++) {
                rows[row + i] = gone[i];
            }
        }

        private void leaveBy(int way) {
            for (int t = 0; t < SETS; t++) {
                lower(gone, way * SETS + t, here[t] + 1);
                here[t] = FAR;
            }
        }

        private void turn(int thing, boolean open) {
            Arrays.fill(moved, FAR);
            for (int s = 0; s < SETS; s++) {
                lower(moved, open ? s | thing : s & ~thing, here[s] + 1);
            }
            System.arraycopy(moved, 0, here, 0, SETS);
        }

        private void call(int r) {
            Arrays.fill(part, FAR);
            for (int s = 0; s < SETS; s++) {
                for (int exit = 0; exit < EXITS && here[s] < FAR; exit++) {
                    for (int t = 0; t < SETS; t++) {
                        lower(part, exit * SETS + t, here[s] + 1 + exits.fewest(r, s, exit, t));
                    }
                }
            }
            goOn(part);
        }

        private int choose(int place, int k) {
            int one = told.blockAt(place);
            int other = told.blockAt(told.closeOf(one) + 1);
            Arrays.fill(part, FAR);
            enter(one, k);
            enter(other, k);
            goOn(part);
            return told.closeOf(other) + 1;
        }

        private int repeat(int place, int k) {
            int b = told.blockAt(place);
            for (int n = 0; n < SETS; n++) {
                for (int s = 0; s < SETS; s++) {
                    int row = rowOf(b, k, s);
                    for (int t = 0; t < SETS; t++) {
                        lower(here, t, here[s] + cell(row, END, t));
                    }
                }
            }
            Arrays.fill(part, FAR);
            enter(b, k);
            for (int t = 0; t < SETS; t++) {
                lower(part, END * SETS + t, here[t]);
            }
            goOn(part);
            return told.closeOf(b) + 1;
        }

        private int take(int place, int k) {
            int b = told.blockAt(place);
            Arrays.fill(part, FAR);
            enter(b, k);
            int takers = told.closeOf(b) + 1;
            Arrays.fill(taken, FAR);
            for (int way = 0; way < WAYS; way++) {
                int taker = told.takerOf(takers, kinds.above(way - 1));
                for (int t = 0; t < SETS; t++) {
                    int i = way * SETS + t;
                    if (taker == NONE) {
                        lower(taken, i, part[i]);
                    } else {
                        addRow(rowOf(taker, way - 1, t), part[i], taken);
                    }
                }
            }
            int behind = told.behindTakers(takers);
            if (told.at(behind) != 'Z') {
                goOn(taken);
                return behind;
            }
            int ending = told.blockAt(behind + 1);
            Arrays.fill(part, FAR);
            for (int way = 0; way < WAYS; way++) {
                for (int t = 0; t < SETS; t++) {
                    end(rowOf(ending, k, t), way, taken[way * SETS + t]);
                }
            }
            goOn(part);
            return told.closeOf(ending) + 1;
        }

        /** Goes through an ENDING while a way out is waiting: that one goes on, or the ENDING's own. */
        private void end(int row, int waiting, int cost) {
            for (int way = 0; way < WAYS && cost < FAR; way++) {
                int goesOn = way == END ? waiting : way;
                for (int t = 0; t < SETS; t++) {
                    lower(part, goesOn * SETS + t, cost + cell(row, way, t));
                }
            }
        }

        private void enter(int b, int k) {
            for (int s = 0; s < SETS; s++) {
                addRow(rowOf(b, k, s), here[s], part);
            }
        }

        private void addRow(int row, int cost, int[] to) {
            for (int i = 0; i < CELLS && cost < FAR && row >= 0 && row + i < rows.length; i++) {
                if (rows[row + i] < FAR) {
                    lower(to, i, cost + rows[row + i]);
                }
            }
        }

        /** What ends at its end goes on to the next STATEMENT, all else leaves the BLOCK. */
        private void goOn(int[] left) {
            for (int i = 0; i < CELLS && i < left.length; i++) {
                if (i < SETS) {
                    here[i] = left[i];
                } else {
                    lower(gone, i, left[i]);
                }
            }
        }
    }

    /**
     * Traces, of the TEXT that was measured last, which TAKERS and ENDINGS are reached, and with what.
     * RUNS of the same ROUTINE that it calls itself reach the same: what is open at first chooses nothing.
     */
    private static final class Tracer {
        private final Kinds kinds;
        private final Exits exits;
        private final Measurer measurer;
        private Told told = new Told();
        /** By BLOCK: with which KINDS taken around it (bits; bit 0 if it doesn't matter) it is reached. */
        private final int[] reached = new int[BLOCKS];
        private boolean alive = false;

        Tracer(Kinds kinds, Exits exits, Measurer measurer) {
            this.kinds = kinds;
            this.exits = exits;
            this.measurer = measurer;
        }

        /** A BLOCK is only reached from those with lower numbers. */
        void traceAll(Told text) {
            told = text;
            told.clearTraces();
            Arrays.fill(reached, 0);
            reach(0, 0);
            for (int b = 0; b < BLOCKS; b++) {
                for (int k = 0; k < KINDS; k++) {
                    if (has(reached[b], k)) {
                        traceBlock(b, k);
                    }
                }
            }
        }

        private void reach(int b, int k) {
            if (b >= 0 && b < BLOCKS) {
                reached[b] |= told.raisesAgain(b) ? 1 << k : 1;
            }
        }

        private void traceBlock(int b, int k) {
            alive = true;
            int place = told.firstOf(b);
            int close = told.closeOf(b);
            for (int n = 0; n < TEXT_BYTES && place < close && alive; n++) {
                switch (told.at(place)) {
                    case '+':
                    case '-':
                        place += 2;
                        break;
                    case '@':
                        alive = exits.canLeave(told.at(place + 1) - 'a', 0, 0);
                        place += 2;
                        break;
                    case '?':
                        place = traceChoice(place + 1, k);
                        break;
                    case '*':
                        int repeated = told.blockAt(place + 1);
                        reach(repeated, k);
                        place = told.closeOf(repeated) + 1;
                        break;
                    case 'T':
                        place = traceTaking(place + 1, k);
                        break;
                    default:
                        alive = false;
                }
            }
        }

        private int traceChoice(int place, int k) {
            int one = told.blockAt(place);
            int other = told.blockAt(told.closeOf(one) + 1);
            reach(one, k);
            reach(other, k);
            alive = has(measurer.waysOf(one, k) | measurer.waysOf(other, k), END);
            return told.closeOf(other) + 1;
        }

        private int traceTaking(int place, int k) {
            int b = told.blockAt(place);
            reach(b, k);
            int takers = told.closeOf(b) + 1;
            int ways = measurer.waysOf(b, k);
            int waiting = ways & (END_BIT | RETURN_BIT);
            for (int kind = 0; kind < KINDS; kind++) {
                if (has(ways, 1 + kind)) {
                    int taker = told.takerOf(takers, kinds.above(kind));
                    if (taker == NONE) {
                        waiting |= 1 << 1 + kind;
                    } else {
                        told.addTaken(taker, kind);
                        reach(taker, kind);
                        waiting |= measurer.waysOf(taker, kind);
                    }
                }
            }
            int behind = told.behindTakers(takers);
            if (waiting != 0 && told.at(behind) == 'Z') {
                int ending = told.blockAt(behind + 1);
                reach(ending, k);
                waiting = traceEnding(measurer.waysOf(ending, k), waiting);
                behind = told.closeOf(ending) + 1;
            }
            alive = has(waiting, END);
            return behind;
        }

        /** Answers the ways that go on behind an ENDING that can be left by its own ways. */
        private int traceEnding(int ways, int waiting) {
            int own = ways & ~END_BIT;
            if (own != 0) {
                told.addLost((waiting & ~RETURN_BIT) >> 1);
            }
            return has(ways, END) ? waiting | own : own;
        }
    }
}

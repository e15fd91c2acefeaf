import java.util.Arrays;

/** Ways in which something may run behind a wall, their odds, and what drilling there would cost. */
public final class BehindWall {
    public static final int BAD = -1000000001, NO = -1000000002, FULL = -1000000003, NONE = -1000000005,
        NOTHING = -1000000011, KIND = -1000000012, INDEX = -1000000013, SIZE = -1000000014;

    private static final int CELLS = 36, ROWS = 6, KINDS = 6, SORTS = 4;
    private static final int MOST_RUNS = 10, MOST_TEXTS = 14, KEYS = 3, MOST_STEP = 9999;
    private static final int MOST_LIKELY = 99, MOST_DEEP = 9, MOST_SLIP = 49;
    private static final int MOST_SHEETS = 4, MOST_PLACES = 24, MOST_SLOTS = 5;
    private static final int MOST_WAITING = 60, MOST_BYTES = 96, BYTES_FED = 12;
    private static final int KNOCK = 0, BEEP = 1, FEEL = 2, HOLE = 3;
    private static final int HURT_KEY = 0, FEE_KEY = 1, FINE_KEY = 2;
    private static final int COST = 0, HITS = 1, HOLES = 2, TESTS = 3, SLIPS = 4, MINUTES = 5, FORGOT = 6, TALLIES = 7;

    private final Wall wall = new Wall();
    private final Wall image = new Wall();
    private final Wall thought = new Wall();
    private final Plan plan = new Plan();
    private final Tape tape = new Tape();
    private final Sheet[] sheets = new Sheet[MOST_SHEETS];
    private final Slot[] slots = new Slot[MOST_SLOTS];
    private final int[] waiting = new int[MOST_WAITING];
    private boolean imaged;
    private int waits;

    public BehindWall() {
        for (int i = 0; i < MOST_SHEETS; i++) {
            sheets[i] = new Sheet();
        }
        for (int i = 0; i < MOST_SLOTS; i++) {
            slots[i] = new Slot();
        }
    }

    // ---- runs

    public int run(int kind, int cell, int likely, int deep) {
        if (!isKind(kind) || !isCell(cell) || !within(likely, 1, MOST_LIKELY) || !isDepth(deep)) {
            return BAD;
        }
        if (wall.runs >= MOST_RUNS) {
            return FULL;
        }
        wall.addRun(kind, cell, likely, deep);
        return wall.runs - 1;
    }

    public int told(int run, int what) {
        if (!wall.isRun(run)) {
            return BAD;
        }
        switch (what) {
            case 0: return wall.kinds[run];
            case 1: return wall.cells[run];
            case 2: return wall.likely[run];
            case 3: return wall.deep[run];
            case 4: return wall.odds[run];
            case 5: return wall.hurtOf(run);
            case 6: return Long.bitCount(wall.ways[run]);
            case 7: return Kinds.worthOf(wall.kinds[run], wall.deep[run]);
            default: return BAD;
        }
    }

    public int as(int run, int kind) {
        if (!wall.isRun(run) || !isKind(kind)) {
            return BAD;
        }
        return Kinds.isUnder(wall.kinds[run], kind) ? wall.deep[run] : KIND;
    }

    public int turns(int run, int kind) {
        if (!wall.isRun(run) || !isKind(kind)) {
            return BAD;
        }
        int was = wall.kinds[run];
        wall.shape(run, kind, wall.cells[run]);
        return was;
    }

    public int set(int run, int what, int v) {
        if (!wall.isRun(run)) {
            return BAD;
        }
        switch (what) {
            case 1: return setCell(run, v);
            case 2: return within(v, 1, MOST_LIKELY) ? exchange(wall.likely, run, v) : BAD;
            case 3: return isDepth(v) ? exchange(wall.deep, run, v) : BAD;
            default: return BAD;
        }
    }

    public int passes(int run, int row) {
        if (!wall.isRun(run) || !within(row, 0, ROWS - 1)) {
            return BAD;
        }
        return Kinds.columnsIn(wall.ways[run], row);
    }

    public int tells(int run, int sort, int cell) {
        if (!wall.isRun(run) || !isSort(sort) || !isCell(cell)) {
            return BAD;
        }
        return wall.wouldTell(run, sort, cell);
    }

    public int deal(int n) {
        if (!within(n, 1, MOST_RUNS)) {
            return BAD;
        }
        int came = Math.min(n, MOST_RUNS - wall.runs);
        for (int i = 0; i < came; i++) {
            wall.drawRun();
        }
        return came;
    }

    public int seed(int v) {
        int was = wall.z;
        wall.z = v;
        return was;
    }

    // ---- the wall

    public int rule(int what, int v) {
        int was;
        if (what == 0 && within(v, 0, MOST_SLIP)) {
            was = wall.slip;
            wall.slip = v;
        } else if (what == 1 && within(v, 0, 1)) {
            was = wall.mains;
            wall.mains = v;
        } else {
            was = BAD;
        }
        return was;
    }

    public int build() {
        if (wall.runs == 0) {
            return NO;
        }
        wall.chooseTrue();
        return wall.runs;
    }

    public int probe(int sort, int cell) {
        if (!isSort(sort) || !isCell(cell)) {
            return BAD;
        }
        return wall.isBuilt() ? wall.testAt(sort, cell) : NO;
    }

    public int drill(int cell, int depth) {
        if (!isCell(cell) || !isDepth(depth)) {
            return BAD;
        }
        return wall.isBuilt() ? wall.drillAt(cell, depth) : NO;
    }

    public int steps(int n) {
        if (!within(n, 1, 100)) {
            return BAD;
        }
        int before = wall.tally[SLIPS];
        wall.goOn(Math.min(n, MOST_STEP - wall.step));
        return wall.tally[SLIPS] - before;
    }

    public int house(int what) {
        if (within(what, 0, TALLIES - 1)) {
            return wall.tally[what];
        }
        switch (what) {
            case 7: return wall.isBuilt() ? 1 : 0;
            case 8: return wall.runs == 0 ? NONE : wall.likeliest();
            case 9: return wall.isKnown() ? 1 : 0;
            default: return BAD;
        }
    }

    // ---- what is likely

    public int chance(int cell) {
        if (!isCell(cell)) {
            return BAD;
        }
        return wall.runs == 0 ? NONE : wall.ofThousand(wall.oddsAt(cell));
    }

    public int risk(int cell, int depth) {
        if (!isCell(cell) || !isDepth(depth)) {
            return BAD;
        }
        return wall.runs == 0 ? NONE : wall.ofThousand(wall.lossAt(cell, depth));
    }

    public int where(int sheet, int depth, int what) {
        if (!isSheet(sheet) || !isDepth(depth) || !within(what, 0, 1)) {
            return BAD;
        }
        int refusal = makePlan(sheet, depth);
        if (refusal != 0) {
            return refusal;
        }
        return what == 0 ? plan.bestCell() : wall.ofThousand(plan.leastLoss());
    }

    public int safe(int cell, int most) {
        if (!isCell(cell) || !within(most, 0, 99999)) {
            return BAD;
        }
        if (wall.runs == 0) {
            return NONE;
        }
        for (int depth = MOST_DEEP; depth > 0; depth--) {
            if (wall.ofThousand(wall.lossAt(cell, depth)) <= most) {
                return depth;
            }
        }
        return 0;
    }

    public int learn(int sort, int cell, int sheet, int depth) {
        if (!isSort(sort) || !isCell(cell) || !isSheet(sheet) || !isDepth(depth)) {
            return BAD;
        }
        int refusal = makePlan(sheet, depth);
        return refusal != 0 ? refusal : plan.learnBy(wall, sort, cell);
    }

    public int worthiest(int sheet, int depth, int what) {
        if (!isSheet(sheet) || !isDepth(depth) || !within(what, 0, 2)) {
            return BAD;
        }
        int refusal = makePlan(sheet, depth);
        if (refusal != 0) {
            return refusal;
        }
        plan.findWorthiest(wall);
        switch (what) {
            case 0: return plan.worthySort;
            case 1: return plan.worthyCell;
            default: return plan.worthyLearn;
        }
    }

    public int fits(int sheet, int what) {
        if (!isSheet(sheet) || !within(what, 0, 1)) {
            return BAD;
        }
        if (sheets[sheet].isMissing()) {
            return NOTHING;
        }
        if (wall.runs == 0) {
            return NONE;
        }
        int best = 0;
        int most = sheets[sheet].placesOn(wall.ways[0]);
        for (int i = 1; i < wall.runs; i++) {
            int many = sheets[sheet].placesOn(wall.ways[i]);
            if (many > most) {
                best = i;
                most = many;
            }
        }
        return what == 0 ? best : most;
    }

    // ---- what will be

    public int behind(int n, int what) {
        if (!within(n, 0, 100) || what < 0 || what >= 3 && !wall.isRun(what - 3)) {
            return BAD;
        }
        if (what == 2 && wall.runs == 0) {
            return NONE;
        }
        thought.takeFrom(wall);
        thought.goOn(n);
        switch (what) {
            case 0: return thought.tally[MINUTES];
            case 1: return thought.tally[SLIPS];
            case 2: return thought.likeliest();
            default: return thought.odds[what - 3];
        }
    }

    public int when() {
        thought.takeFrom(wall);
        for (int n = 0; n <= 100; n++) {
            if (thought.isKnown()) {
                return n;
            }
            thought.takeStep();
        }
        return NONE;
    }

    public int slipped(int n, int what) {
        if (!within(n, 1, 30) || !within(what, 0, 1)) {
            return BAD;
        }
        if (!wall.isBuilt()) {
            return NO;
        }
        int best = 0;
        int most = -1;
        for (int slip = 0; slip <= MOST_SLIP; slip++) {
            int share = trueShareBehind(n, slip);
            if (share > most) {
                best = slip;
                most = share;
            }
        }
        return what == 0 ? best : most;
    }

    public int fee() {
        return wall.lawOr(wall.tally[COST], FEE_KEY, wall.tally[COST], wall.tally[TESTS], 0);
    }

    public int fine(int run) {
        if (!wall.isRun(run)) {
            return BAD;
        }
        return wall.lawOr(wall.odds[run], FINE_KEY, wall.odds[run], wall.deep[run], 0);
    }

    // ---- texts

    public int feed(int a, int b, int c) {
        if (tape.length > MOST_BYTES - BYTES_FED) {
            return FULL;
        }
        tape.addBytes(a);
        tape.addBytes(b);
        tape.addBytes(c);
        return tape.length;
    }

    public int trim(int n) {
        if (!within(n, 0, tape.length)) {
            return BAD;
        }
        tape.length = n;
        return n;
    }

    public int text() {
        int fault = tape.findFault();
        tape.length = 0;
        if (fault >= 0) {
            return -100 - fault;
        }
        if (wall.texts >= MOST_TEXTS) {
            return FULL;
        }
        wall.addText(tape.toText());
        return wall.texts - 1;
    }

    public int textTold(int text, int what) {
        if (!within(text, 0, wall.texts - 1) || !within(what, 0, 1)) {
            return BAD;
        }
        Text law = wall.laws[text];
        if (law == null) {
            return BAD;
        }
        return what == 0 ? law.key : law.atoms;
    }

    public int why(int key) {
        if (!within(key, 0, KEYS - 1)) {
            return BAD;
        }
        return wall.counting[key] < 0 ? NONE : wall.counting[key];
    }

    // ---- sheets, slots

    public int sheet(int sheet, int sort, int n) {
        if (!isSheet(sheet) || !within(sort, Sheet.MISSING, Sheet.FLOATS)) {
            return BAD;
        }
        if (sort == Sheet.MISSING) {
            sheets[sheet].renew(sort, 0);
            return 0;
        }
        if (n > MOST_PLACES) {
            return BAD;
        }
        if (n < 0) {
            return SIZE;
        }
        sheets[sheet].renew(sort, n);
        return n;
    }

    public int mark(int sheet, int place, int v) {
        if (!isSheet(sheet)) {
            return BAD;
        }
        Sheet row = sheets[sheet];
        if (row.isMissing()) {
            return NOTHING;
        }
        if (!row.hasPlace(place)) {
            return INDEX;
        }
        if (row.sort == Sheet.SHORTS) {
            if (v == NONE) {
                return KIND;
            }
            row.places[place] = (short) v;
            return 1;
        }
        if (v != NONE && !within(v, -99999, 99999)) {
            return BAD;
        }
        row.places[place] = v;
        return 1;
    }

    public int pour(int sheet) {
        if (!isSheet(sheet)) {
            return BAD;
        }
        Sheet row = sheets[sheet];
        if (row.isMissing()) {
            return NOTHING;
        }
        int changed = 0;
        for (int i = 0; i < wall.runs && i < row.size; i++) {
            if (row.isNumber(i)) {
                int poured = held(row.places[i], 1, MOST_LIKELY);
                changed += exchange(wall.likely, i, poured) == poured ? 0 : 1;
            }
        }
        return changed;
    }

    public int reads(int sheet) {
        if (!isSheet(sheet)) {
            return BAD;
        }
        Sheet row = sheets[sheet];
        if (row.isMissing()) {
            return NOTHING;
        }
        for (int i = 0; i < row.size; i++) {
            if (row.isNumber(i) && (!wall.isRun(i) || row.places[i] != wall.deep[i])) {
                return i;
            }
        }
        return NONE;
    }

    public int copy(int from, int place, int to, int at, int many) {
        if (!isSheet(from) || !isSheet(to)) {
            return BAD;
        }
        Sheet source = sheets[from];
        Sheet goal = sheets[to];
        if (source.isMissing() || goal.isMissing()) {
            return NOTHING;
        }
        if (source.sort != goal.sort) {
            return KIND;
        }
        if (!source.hasPlaces(place, many) || !goal.hasPlaces(at, many)) {
            return INDEX;
        }
        System.arraycopy(source.places, place, goal.places, at, many);
        return many;
    }

    public int lay(int slot, int thing, int k) {
        if (!isSlot(slot) || !within(thing, Slot.EMPTY, Slot.NUMBER)) {
            return BAD;
        }
        if (thing == Slot.RUN && !wall.isRun(k) || thing == Slot.SHEET && !isSheet(k)) {
            return BAD;
        }
        if (thing == Slot.SHEET && sheets[k].isMissing()) {
            return NOTHING;
        }
        Slot into = slots[slot];
        int was = into.holds;
        into.holds = thing;
        if (thing == Slot.RUN) {
            into.kind = wall.kinds[k];
            into.deep = wall.deep[k];
        } else if (thing == Slot.SHEET) {
            into.row.takeFrom(sheets[k]);
        } else {
            into.number = k;
        }
        return was;
    }

    public int ask(int slot, int kind) {
        if (!isSlot(slot) || !isKind(kind)) {
            return BAD;
        }
        Slot from = slots[slot];
        if (from.holds == Slot.EMPTY) {
            return NOTHING;
        }
        if (from.holds != Slot.RUN || !Kinds.isUnder(from.kind, kind)) {
            return KIND;
        }
        return Kinds.worthOf(from.kind, from.deep);
    }

    public int item(int slot, int place) {
        if (!isSlot(slot)) {
            return BAD;
        }
        Slot from = slots[slot];
        if (from.holds == Slot.EMPTY) {
            return NOTHING;
        }
        if (from.holds != Slot.SHEET) {
            return KIND;
        }
        if (!from.row.hasPlace(place)) {
            return INDEX;
        }
        return from.row.isNumber(place) ? from.row.places[place] : KIND;
    }

    public int rest(int slot, int n) {
        if (!isSlot(slot)) {
            return BAD;
        }
        Slot from = slots[slot];
        if (from.holds == Slot.EMPTY) {
            return NOTHING;
        }
        if (from.holds != Slot.NUMBER) {
            return KIND;
        }
        return n == 0 ? NO : from.number % n;
    }

    // ---- rows, images

    public int tell(int v) {
        if (waits >= MOST_WAITING) {
            return FULL;
        }
        waiting[waits] = v;
        waits++;
        return waits;
    }

    public int check(int n) {
        int many = waits;
        waits = 0;
        if (!within(n, 1, 30)) {
            return BAD;
        }
        if (!imaged) {
            return NO;
        }
        thought.takeFrom(image);
        int due = 2 * Math.min(n, MOST_STEP - image.step);
        for (int i = 0; i < due; i++) {
            if (i % 2 == 0) {
                thought.takeStep();
            }
            int told = i % 2 == 0 ? thought.tally[MINUTES] : thought.likeliest();
            if (i >= many || waiting[i] != told) {
                return 1 + i;
            }
        }
        return many == due ? 0 : 1 + due;
    }

    public int keep() {
        image.takeFrom(wall);
        imaged = true;
        return wall.runs;
    }

    public int back() {
        if (!imaged) {
            return NO;
        }
        wall.takeFrom(image);
        return wall.runs;
    }

    public int count(int what) {
        switch (what) {
            case 0: return wall.runs;
            case 1: return wall.step;
            case 2: return wall.slip;
            case 3: return wall.mains;
            case 4: return wall.texts;
            case 5: return waits;
            case 6: return tape.length;
            case 7: return wall.z;
            default: return BAD;
        }
    }

    // ---- what the calls share

    private static boolean within(int v, int least, int most) {
        return v >= least && v <= most;
    }

    private static boolean isCell(int v) {
        return within(v, 0, CELLS - 1);
    }

    private static boolean isDepth(int v) {
        return within(v, 1, MOST_DEEP);
    }

    private static boolean isKind(int v) {
        return within(v, 0, KINDS - 1);
    }

    private static boolean isSort(int v) {
        return within(v, 0, SORTS - 1);
    }

    private static boolean isSheet(int v) {
        return within(v, 0, MOST_SHEETS - 1);
    }

    private static boolean isSlot(int v) {
        return within(v, 0, MOST_SLOTS - 1);
    }

    private static int held(int v, int least, int most) {
        return Math.max(least, Math.min(most, v));
    }

    private static int exchange(int[] row, int at, int v) {
        int was = row[at];
        row[at] = v;
        return was;
    }

    private int setCell(int run, int v) {
        if (!isCell(v)) {
            return BAD;
        }
        int was = wall.cells[run];
        wall.shape(run, wall.kinds[run], v);
        return was;
    }

    /** 0, or why nothing can be planned by a SHEET. */
    private int makePlan(int sheet, int depth) {
        Sheet row = sheets[sheet];
        if (row.isMissing()) {
            return NOTHING;
        }
        if (wall.runs == 0) {
            return NONE;
        }
        plan.wish(row);
        if (plan.many == 0) {
            return NONE;
        }
        plan.weigh(wall, depth);
        return 0;
    }

    private int trueShareBehind(int n, int slip) {
        thought.takeFrom(wall);
        thought.slip = slip;
        thought.goOn(n);
        return thought.isBuilt() ? thought.ofThousand(thought.odds[thought.truth]) : 0;
    }

    /** What the KINDS do; CELLS are told as sets, by bits of a long. */
    private static final class Kinds {
        private static final int CABLE = 1, PIPE = 2, ASLANT = 3, BEND = 4, STUD = 5;
        private static final int[] ABOVE = {-1, 0, 0, CABLE, PIPE, 0};
        private static final long EVEN_ROWS = 0x3F03F03FL;

        static boolean isUnder(int kind, int wanted) {
            int k = kind;
            for (int i = 0; i < KINDS && isKind(k); i++) {
                if (k == wanted) {
                    return true;
                }
                k = ABOVE[k];
            }
            return false;
        }

        static long cellsOf(int kind, int cell) {
            int row = cell / ROWS;
            int column = cell % ROWS;
            switch (kind) {
                case ASLANT: return slanted(row, column);
                case PIPE: return along(row, column);
                case BEND: return along(row, column) | upwards(row + 1, ROWS - 1);
                case STUD: return upwards(0, column) | upwards(0, (column + 3) % ROWS);
                default: return upwards(row, column);
            }
        }

        static boolean has(long cells, int cell) {
            return (cells >>> cell & 1L) != 0L;
        }

        static int columnsIn(long cells, int row) {
            return (int) (cells >>> row * ROWS & 63L);
        }

        /** The CELLS at which a sort of TEST tells yes of what PASSES these. */
        static long cellsTold(int kind, int deep, int sort, long cells) {
            boolean pipe = kind == PIPE || kind == BEND;
            switch (sort) {
                case KNOCK: return kind == STUD || pipe && deep <= 3 ? cells : 0L;
                case BEEP:
                    if (kind == STUD) {
                        return cells & EVEN_ROWS;
                    }
                    return pipe && deep > 6 ? 0L : cells;
                case FEEL: return pipe ? cells : 0L;
                default: return cells;
            }
        }

        static int hurtOf(int kind, int asRun) {
            switch (kind) {
                case CABLE: return 2 * asRun;
                case ASLANT: return 2 * asRun + 1;
                case PIPE: return asRun + 9;
                case BEND: return Math.max(0, asRun + 7);
                case STUD: return 1;
                default: return asRun;
            }
        }

        static int worthOf(int kind, int deep) {
            switch (kind) {
                case CABLE: return deep + 9;
                case ASLANT: return 2 * (deep + 9);
                case PIPE: return 99 - deep;
                case BEND: return 94 - deep;
                case STUD: return 2;
                default: return deep;
            }
        }

        private static long upwards(int from, int column) {
            long cells = 0L;
            for (int row = from; row < ROWS; row++) {
                cells |= 1L << row * ROWS + column;
            }
            return cells;
        }

        private static long along(int row, int from) {
            long cells = 0L;
            for (int column = from; column < ROWS; column++) {
                cells |= 1L << row * ROWS + column;
            }
            return cells;
        }

        private static long slanted(int from, int column) {
            long cells = 0L;
            for (int row = from; row < ROWS; row++) {
                cells |= 1L << row * ROWS + Math.min(ROWS - 1, column + row - from);
            }
            return cells;
        }
    }

    /** All that an IMAGE keeps. */
    private static final class Wall {
        private static final int[] MINUTES_OF = {1, 2, 3, 9};

        final int[] kinds = new int[MOST_RUNS];
        final int[] cells = new int[MOST_RUNS];
        final int[] likely = new int[MOST_RUNS];
        final int[] deep = new int[MOST_RUNS];
        final int[] odds = new int[MOST_RUNS];
        final long[] ways = new long[MOST_RUNS];
        final int[] tally = new int[TALLIES];
        final Text[] laws = new Text[MOST_TEXTS];
        final int[] counting = {-1, -1, -1};
        int runs;
        int truth = -1;
        int slip = 10;
        int mains = 1;
        int step;
        int z = 1;
        int texts;

        void takeFrom(Wall other) {
            System.arraycopy(other.kinds, 0, kinds, 0, MOST_RUNS);
            System.arraycopy(other.cells, 0, cells, 0, MOST_RUNS);
            System.arraycopy(other.likely, 0, likely, 0, MOST_RUNS);
            System.arraycopy(other.deep, 0, deep, 0, MOST_RUNS);
            System.arraycopy(other.odds, 0, odds, 0, MOST_RUNS);
            System.arraycopy(other.ways, 0, ways, 0, MOST_RUNS);
            System.arraycopy(other.tally, 0, tally, 0, TALLIES);
            System.arraycopy(other.counting, 0, counting, 0, KEYS);
            for (int i = 0; i < MOST_TEXTS; i++) {
                laws[i] = other.laws[i];
            }
            runs = other.runs;
            truth = other.truth;
            slip = other.slip;
            mains = other.mains;
            step = other.step;
            z = other.z;
            texts = other.texts;
        }

        boolean isRun(int v) {
            return within(v, 0, runs - 1);
        }

        boolean isBuilt() {
            return isRun(truth);
        }

        void addRun(int kind, int cell, int likelyNow, int deepNow) {
            if (runs >= MOST_RUNS) {
                return;
            }
            likely[runs] = likelyNow;
            deep[runs] = deepNow;
            odds[runs] = likelyNow * 1000;
            shape(runs, kind, cell);
            runs++;
        }

        /** The CELLS that a RUN PASSES are kept with it, since TESTS ask for them again and again. */
        void shape(int run, int kind, int cell) {
            kinds[run] = kind;
            cells[run] = cell;
            ways[run] = Kinds.cellsOf(kind, cell);
        }

        void drawRun() {
            int kind = draw() % KINDS;
            int cell = draw() % CELLS;
            int likelyNow = 1 + draw() % 40;
            addRun(kind, cell, likelyNow, 1 + draw() % MOST_DEEP);
        }

        int draw() {
            z = z * 1103515245 + 12345;
            return z >>> 8;
        }

        void chooseTrue() {
            int all = 0;
            for (int i = 0; i < runs; i++) {
                all += likely[i];
            }
            if (all <= 0) {
                return;
            }
            int left = draw() % all;
            for (int i = 0; i < runs; i++) {
                left -= likely[i];
                if (left < 0) {
                    truth = i;
                    return;
                }
            }
        }

        int wouldTell(int run, int sort, int cell) {
            return Kinds.has(Kinds.cellsTold(kinds[run], deep[run], sort, ways[run]), cell) ? 1 : 0;
        }

        int testAt(int sort, int cell) {
            int told = wouldTell(truth, sort, cell);
            if (sort != HOLE && draw() % 100 < slip) {
                told = 1 - told;
                tally[SLIPS]++;
            }
            tally[TESTS]++;
            tally[MINUTES] += MINUTES_OF[sort];
            changeOdds(sort, cell, told);
            return told;
        }

        /** How many of 100 TESTS of a sort tell it so, if TELLS is the same or is not. */
        int ofHundred(int sort, boolean same) {
            int wrong = sort == HOLE ? 0 : slip;
            return same ? 100 - wrong : wrong;
        }

        private void changeOdds(int sort, int cell, int told) {
            int all = 0;
            for (int i = 0; i < runs; i++) {
                odds[i] = odds[i] * ofHundred(sort, wouldTell(i, sort, cell) == told) / 100;
                all += odds[i];
            }
            if (all == 0) {
                forget();
            }
        }

        private void forget() {
            for (int i = 0; i < runs; i++) {
                odds[i] = likely[i] * 1000;
            }
            tally[FORGOT]++;
        }

        int drillAt(int cell, int depth) {
            tally[HOLES]++;
            if (!Kinds.has(ways[truth], cell) || deep[truth] > depth) {
                return 0;
            }
            int hurt = hurtOf(truth);
            tally[HITS]++;
            tally[COST] += hurt;
            return hurt;
        }

        void goOn(int n) {
            for (int i = 0; i < n; i++) {
                takeStep();
            }
        }

        void takeStep() {
            if (runs > 0) {
                if (isBuilt()) {
                    int sort = draw() % SORTS;
                    testAt(sort, draw() % CELLS);
                } else {
                    chooseTrue();
                }
            }
            step++;
        }

        int likeliest() {
            int best = -1;
            for (int i = 0; i < runs; i++) {
                if (best < 0 || odds[i] > odds[best]) {
                    best = i;
                }
            }
            return best;
        }

        boolean isKnown() {
            return isBuilt() && 900L * allOdds() <= 1000L * odds[truth];
        }

        long allOdds() {
            long all = 0L;
            for (int i = 0; i < runs; i++) {
                all += odds[i];
            }
            return all;
        }

        /** 1000 times a part, by ALL. */
        int ofThousand(long part) {
            long all = allOdds();
            return all <= 0L ? 0 : (int) (1000L * part / all);
        }

        long oddsAt(int cell) {
            long sum = 0L;
            for (int i = 0; i < runs; i++) {
                sum += Kinds.has(ways[i], cell) ? odds[i] : 0;
            }
            return sum;
        }

        long lossAt(int cell, int depth) {
            long sum = 0L;
            for (int i = 0; i < runs; i++) {
                sum += Kinds.has(ways[i], cell) ? lossBy(i, depth) : 0L;
            }
            return sum;
        }

        /** What a RUN brings to LOSS wherever it PASSES. */
        long lossBy(int run, int depth) {
            return deep[run] <= depth ? (long) odds[run] * hurtOf(run) : 0L;
        }

        int hurtOf(int run) {
            int asRun = lawOr(deep[run], HURT_KEY, deep[run], mains, likely[run]);
            return Kinds.hurtOf(kinds[run], held(asRun, 0, 99));
        }

        /** What the TEXT that counts for a KEY gives with its NAMES so; without one, what is told for that. */
        int lawOr(int without, int key, int first, int second, int third) {
            int text = counting[key];
            if (!within(text, 0, texts - 1) || laws[text] == null) {
                return without;
            }
            return laws[text].valueOf(first, second, third);
        }

        void addText(Text law) {
            if (texts >= MOST_TEXTS) {
                return;
            }
            laws[texts] = law;
            counting[law.key] = texts;
            texts++;
        }
    }

    /** LOSS at the CELLS that are WISHED, and what TESTS are worth ahead of drilling there. */
    private static final class Plan {
        int many;
        int worthySort;
        int worthyCell;
        int worthyLearn;
        private final int[] wished = new int[MOST_PLACES];
        private final long[] losses = new long[MOST_PLACES];
        private final long[] brings = new long[MOST_RUNS];
        private final long[] bringsTold = new long[MOST_RUNS];
        private long all;
        private int best;

        void wish(Sheet row) {
            many = 0;
            for (int i = 0; i < row.size && many < MOST_PLACES; i++) {
                if (isCell(row.places[i])) {
                    wished[many] = row.places[i];
                    many++;
                }
            }
        }

        void weigh(Wall wall, int depth) {
            all = wall.allOdds();
            for (int i = 0; i < wall.runs; i++) {
                brings[i] = wall.lossBy(i, depth);
            }
            best = 0;
            for (int i = 0; i < many; i++) {
                losses[i] = lossOf(wall, brings, wished[i]);
                best = losses[i] < losses[best] ? i : best;
            }
        }

        int bestCell() {
            return wished[best];
        }

        long leastLoss() {
            return losses[best];
        }

        int learnBy(Wall wall, int sort, int cell) {
            if (all <= 0L || !shareOut(wall, sort, cell)) {
                return 0;
            }
            long leastYes = 0L;
            long leastNo = 0L;
            for (int i = 0; i < many; i++) {
                long yes = lossOf(wall, bringsTold, wished[i]);
                // the shares of yes and no are 100 together, so what yes leaves of LOSS is that of no
                long no = 100L * losses[i] - yes;
                leastYes = i == 0 ? yes : Math.min(leastYes, yes);
                leastNo = i == 0 ? no : Math.min(leastNo, no);
            }
            return (int) (1000L * (100L * leastLoss() - leastYes - leastNo) / (100L * all));
        }

        /** What each RUN brings if yes is told; false if all TELL the same, since that teaches nothing. */
        private boolean shareOut(Wall wall, int sort, int cell) {
            int yes = 0;
            for (int i = 0; i < wall.runs; i++) {
                int told = wall.wouldTell(i, sort, cell);
                yes += told;
                bringsTold[i] = brings[i] * wall.ofHundred(sort, told == 1);
            }
            return yes > 0 && yes < wall.runs;
        }

        void findWorthiest(Wall wall) {
            worthyLearn = -1;
            for (int sort = 0; sort < SORTS; sort++) {
                for (int cell = 0; cell < CELLS; cell++) {
                    int learned = learnBy(wall, sort, cell);
                    if (learned > worthyLearn) {
                        worthySort = sort;
                        worthyCell = cell;
                        worthyLearn = learned;
                    }
                }
            }
        }

        private static long lossOf(Wall wall, long[] parts, int cell) {
            long sum = 0L;
            for (int i = 0; i < wall.runs; i++) {
                if (Kinds.has(wall.ways[i], cell)) {
                    sum += parts[i];
                }
            }
            return sum;
        }
    }

    /** A row of numbers; NONE stands for NO NUMBER, which neither sort can hold as a number. */
    private static final class Sheet {
        private static final int MISSING = -1, SHORTS = 0, FLOATS = 1;

        final int[] places = new int[MOST_PLACES];
        int sort = MISSING;
        int size;

        boolean isMissing() {
            return sort == MISSING;
        }

        boolean hasPlace(int place) {
            return within(place, 0, size - 1);
        }

        boolean hasPlaces(int from, int count) {
            return count >= 0 && from >= 0 && from <= size - count;
        }

        boolean isNumber(int place) {
            return places[place] != NONE;
        }

        void renew(int sortNow, int sizeNow) {
            sort = sortNow;
            size = sizeNow;
            Arrays.fill(places, 0);
        }

        void takeFrom(Sheet other) {
            sort = other.sort;
            size = other.size;
            System.arraycopy(other.places, 0, places, 0, MOST_PLACES);
        }

        int placesOn(long cells) {
            int sum = 0;
            for (int i = 0; i < size; i++) {
                if (isCell(places[i]) && Kinds.has(cells, places[i])) {
                    sum++;
                }
            }
            return sum;
        }
    }

    /** Holds things as they were when they were laid there. */
    private static final class Slot {
        private static final int EMPTY = 0, RUN = 1, SHEET = 2, NUMBER = 3;

        final Sheet row = new Sheet();
        int holds = EMPTY;
        int kind;
        int deep;
        int number;
    }

    /** A law, its signs each behind what they join; a NAME stands as its place less 3, a sign as its byte below 0. */
    private static final class Text {
        private static final int NAMED = -3;

        final int key;
        final int atoms;
        private final int[] code;
        private final int[] stack;

        Text(int key, int atoms, int[] code) {
            this.key = key;
            this.atoms = atoms;
            this.code = code;
            this.stack = new int[code.length];
        }

        int valueOf(int first, int second, int third) {
            int top = 0;
            for (int i = 0; i < code.length; i++) {
                int part = code[i];
                if (part >= NAMED) {
                    if (top < stack.length) {
                        stack[top] = part >= 0 ? part : named(part - NAMED, first, second, third);
                        top++;
                    }
                } else if (part == -'!') {
                    if (top > 0) {
                        stack[top - 1] = stack[top - 1] == 0 ? 1 : 0;
                    }
                } else if (top > 1) {
                    top--;
                    stack[top - 1] = joined(-part, stack[top - 1], stack[top]);
                }
            }
            return top > 0 ? stack[0] : 0;
        }

        private static int named(int place, int first, int second, int third) {
            if (place == 0) {
                return first;
            }
            return place == 1 ? second : third;
        }

        private static int joined(int sign, int a, int b) {
            switch (sign) {
                case '|': return a != 0 || b != 0 ? 1 : 0;
                case '&': return a != 0 && b != 0 ? 1 : 0;
                case '<': return a < b ? 1 : 0;
                case '=': return a == b ? 1 : 0;
                case '>': return a > b ? 1 : 0;
                case '+': return a + b;
                case '-': return a - b;
                case '*': return a * b;
                default: return b == 0 ? 0 : a / b;
            }
        }
    }

    /** Bytes that become a TEXT: they are read word by word, up to the FAULT. */
    private static final class Tape {
        private static final int END = 0, LETTERS = 1, DIGITS = 2, SIGN = 3;
        private static final int LOOSEST = 0, TESTED = 2, TIGHTEST = 4, MOST_OPEN = 8;

        int length;
        private final int[] bytes = new int[MOST_BYTES];
        private final int[] code = new int[MOST_BYTES];
        private int start;
        private int end;
        private int sort;
        private int fault;
        private int key;
        private int size;
        private int atoms;

        void addBytes(int v) {
            for (int shift = 24; shift >= 0 && length < MOST_BYTES; shift -= 8) {
                bytes[length] = v >>> shift & 255;
                length++;
            }
        }

        /** The place of the FAULT, or -1. */
        int findFault() {
            end = 0;
            sort = END;
            fault = -1;
            size = 0;
            atoms = 0;
            advance();
            key = keyHere();
            if (key < 0) {
                blame();
                return fault;
            }
            advance();
            join(LOOSEST, 0, 0);
            if (sort != END) {
                blame();
            }
            return fault;
        }

        Text toText() {
            return new Text(key, atoms, Arrays.copyOf(code, size));
        }

        private void advance() {
            boolean behindWord = isWord();
            int before = end;
            start = end;
            while (start < length && bytes[start] == ' ') {
                start++;
            }
            sort = sortAt(start);
            end = Math.min(length, start + 1);
            while (end < length && isWord() && sortAt(end) == sort) {
                end++;
            }
            if (behindWord && isWord() && start == before) {
                blame();
            }
        }

        private boolean isWord() {
            return sort == LETTERS || sort == DIGITS;
        }

        private int sortAt(int place) {
            if (place >= length) {
                return END;
            }
            int sign = bytes[place];
            if (sign >= 'a' && sign <= 'z') {
                return LETTERS;
            }
            return sign >= '0' && sign <= '9' ? DIGITS : SIGN;
        }

        /** Only the first FAULT counts. */
        private void blame() {
            if (fault < 0) {
                fault = start;
            }
        }

        private int keyHere() {
            if (wordIs("hurt")) {
                return HURT_KEY;
            }
            if (wordIs("fee")) {
                return FEE_KEY;
            }
            return wordIs("fine") ? FINE_KEY : -1;
        }

        private boolean wordIs(String wanted) {
            if (sort != LETTERS || end - start != wanted.length()) {
                return false;
            }
            for (int i = 0; i < wanted.length(); i++) {
                if (bytes[start + i] != wanted.charAt(i)) {
                    return false;
                }
            }
            return true;
        }

        private boolean signIs(char wanted) {
            return sort == SIGN && start < length && bytes[start] == wanted;
        }

        /** Parts joined by signs of a level; a test joins two at most. */
        private void join(int level, int brackets, int nots) {
            if (level > TIGHTEST) {
                readPiece(brackets, nots);
                return;
            }
            join(level + 1, brackets, nots);
            int most = level == TESTED ? 1 : MOST_BYTES;
            for (int i = 0; i < most && fault < 0 && joinsAt(level); i++) {
                int sign = bytes[start];
                advance();
                join(level + 1, brackets, nots);
                write(-sign);
            }
        }

        private boolean joinsAt(int level) {
            switch (level) {
                case 0: return signIs('|');
                case 1: return signIs('&');
                case 2: return signIs('<') || signIs('=') || signIs('>');
                case 3: return signIs('+') || signIs('-');
                default: return signIs('*') || signIs('/');
            }
        }

        private void readPiece(int brackets, int nots) {
            if (fault >= 0) {
                return;
            }
            if (sort == DIGITS) {
                readNumber();
            } else if (sort == LETTERS) {
                readName();
            } else if (signIs('!') && nots < MOST_OPEN) {
                advance();
                readPiece(brackets, nots + 1);
                write(-'!');
            } else if (signIs('(') && brackets < MOST_OPEN) {
                advance();
                join(LOOSEST, brackets + 1, nots);
                closeBracket();
            } else {
                blame();
            }
        }

        private void closeBracket() {
            if (signIs(')')) {
                if (fault < 0) {
                    advance();
                }
            } else {
                blame();
            }
        }

        private void readNumber() {
            if (end - start > 4) {
                blame();
                return;
            }
            int number = 0;
            for (int i = start; i < end; i++) {
                number = number * 10 + bytes[i] - '0';
            }
            writeAtom(number);
        }

        private void readName() {
            int place = end - start == 1 ? names().indexOf((char) bytes[start]) : -1;
            if (place < 0) {
                blame();
                return;
            }
            writeAtom(Text.NAMED + place);
        }

        private String names() {
            if (key == HURT_KEY) {
                return "dml";
            }
            return key == FEE_KEY ? "ct" : "od";
        }

        private void writeAtom(int part) {
            atoms++;
            write(part);
            advance();
        }

        private void write(int part) {
            if (size < code.length) {
                code[size] = part;
                size++;
            }
        }
    }
}

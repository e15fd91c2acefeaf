import java.util.function.Supplier;

/** Promises 34 to 47 (sheets, slots, rows, images), sentence by sentence. */
public final class PromisesOfSheetsTest {
    private static final int BAD = BehindWall.BAD, NO = BehindWall.NO, FULL = BehindWall.FULL, NONE = BehindWall.NONE,
        NOTHING = BehindWall.NOTHING, KIND = BehindWall.KIND, INDEX = BehindWall.INDEX, SIZE = BehindWall.SIZE;
    private static final int LOW = Integer.MIN_VALUE, HIGH = Integer.MAX_VALUE;
    // SHEETS 0 (four shorts), 1 (three floats, the first NO NUMBER), 2 MISSING, 3 (no places);
    // SLOTS 0 a PIPE, 1 SHEET 0, 2 SHEET 1, 3 the number 77, 4 nothing
    private static final Supplier<BehindWall> RICH = Whole::rich, EMPTY = Whole::withoutRuns, FILLED = Whole::full;
    private final Sentences s;

    private PromisesOfSheetsTest(Sentences s) {
        this.s = s;
    }

    public static void main(String[] args) throws Exception {
        PromisesOfSheetsTest t = new PromisesOfSheetsTest(new Sentences());
        t.sheet();
        t.sheetMissing();
        t.sheetRefused();
        t.markShorts();
        t.markFloats();
        t.markRefused();
        t.pour();
        t.pourRefused();
        t.reads();
        t.readsRefused();
        t.copy();
        t.copyWithin();
        t.copyRefused();
        t.copyBeyond();
        t.lay();
        t.layRefused();
        t.ask();
        t.askRefused();
        t.item();
        t.itemRefused();
        t.rest();
        t.restRefused();
        t.tell();
        t.tellFull();
        t.check();
        t.checkLets();
        t.checkTwoByTwo();
        t.checkFewer();
        t.checkFirstThatIsNot();
        t.checkRefused();
        t.keep();
        t.back();
        t.count();
        t.s.end("PromisesOfSheetsTest", 34, 47);
    }

    private void sheet() {
        s.promise(34, "A SHEET becomes a row of n places of a sort, all 0");
        for (int sort = 0; sort < 2; sort++) {
            BehindWall x = Whole.rich();
            for (int n : new int[] {24, 1, 0, 3}) {
                s.due("n", x.sheet(0, sort, n), n);
                x.lay(4, 2, 0);
                for (int place = 0; place < n; place++) {
                    s.due("all 0", x.item(4, place), 0);
                }
                s.due("no more", x.item(4, n), INDEX);
                for (int place = 0; place < n; place++) {
                    x.mark(0, place, 9);
                }
            }
            s.due("of that sort", x.mark(0, 0, NONE), sort == 0 ? KIND : 1);
            s.due("the same again", x.sheet(0, sort, 3), 3);
            s.due("all 0 again", Sentences.at(x, 0, 0), 0);
        }
    }

    private void sheetMissing() {
        s.promise(34, "(sort -1: MISSING, n any): n (0).");
        for (int n : new int[] {0, 5, 24, 25, -1, LOW, HIGH}) {
            BehindWall x = Whole.rich();
            s.due("n " + n, x.sheet(0, -1, n), 0);
            s.due("MISSING", x.reads(0), NOTHING);
            s.due("again", x.sheet(0, -1, n), 0);
            s.due("a row again", x.sheet(0, 0, 2), 2);
            s.due("all 0", Sentences.at(x, 0, 1), 0);
        }
    }

    private void sheetRefused() {
        s.promise(34, "BAD: sheet, sort, n above 24; SIZE.");
        int[][] bad = {{4, 0, 1}, {-1, 0, 1}, {4, -1, 0}, {0, 2, 1}, {0, -2, 1}, {0, 0, 25}, {0, 1, 25}, {0, 1, HIGH},
            {LOW, LOW, LOW}};
        for (int[] b : bad) {
            s.refused("sheet " + b[0] + " " + b[1] + " " + b[2], RICH, x -> x.sheet(b[0], b[1], b[2]), BAD);
        }
        s.refused("SIZE", RICH, x -> x.sheet(0, 0, -1), SIZE);
        s.refused("SIZE", RICH, x -> x.sheet(1, 1, -1), SIZE);
        s.refused("SIZE", RICH, x -> x.sheet(2, 1, LOW), SIZE);
        s.refused("BAD stands ahead of SIZE", RICH, x -> x.sheet(4, 0, -1), BAD);
        s.refused("BAD stands ahead of SIZE", RICH, x -> x.sheet(0, 2, -1), BAD);
        s.refused("BAD stands ahead of SIZE", RICH, x -> x.sheet(0, -2, LOW), BAD);
    }

    private void markShorts() {
        s.promise(35, "A place of a SHEET becomes v (of shorts its lowest 16 bits;");
        BehindWall x = Whole.rich();
        int[][] due = {{32767, 32767}, {32768, -32768}, {-32768, -32768}, {-32769, 32767}, {65535, -1}, {65536, 0},
            {LOW, 0}, {HIGH, -1}, {BAD, 13823}, {100000, -31072}, {-5, -5}};
        for (int[] d : due) {
            s.due("mark " + d[0], x.mark(0, 2, d[0]), 1);
            s.due("its lowest 16 bits", Sentences.at(x, 0, 2), d[1]);
        }
        s.due("the others stay", Sentences.at(x, 0, 1), 20);
        s.due("the others stay", Sentences.at(x, 0, 3), 40);
    }

    private void markFloats() {
        s.promise(35, "of floats v, -99999 .. 99999; NONE: NO NUMBER): 1.");
        BehindWall x = Whole.rich();
        for (int v : new int[] {99999, -99999, 32768, 0, 1}) {
            s.due("mark " + v, x.mark(1, 2, v), 1);
            s.due("the number", Sentences.at(x, 1, 2), v);
        }
        s.due("NONE", x.mark(1, 2, NONE), 1);
        s.due("NO NUMBER", Sentences.at(x, 1, 2), KIND);
        s.due("the others stay", Sentences.at(x, 1, 1), 7);
        for (int v : new int[] {100000, -100000, LOW, HIGH, BAD, NONE - 1, NONE + 1}) {
            s.refused("mark " + v, RICH, y -> y.mark(1, 2, v), BAD);
        }
    }

    private void markRefused() {
        s.promise(35, "BAD: sheet; NOTHING; INDEX; KIND: NONE in a row of shorts; BAD: v of floats.");
        s.refused("BAD", RICH, x -> x.mark(4, 0, 0), BAD);
        s.refused("BAD", RICH, x -> x.mark(-1, 0, 0), BAD);
        s.refused("NOTHING", RICH, x -> x.mark(2, 0, 0), NOTHING);
        s.refused("INDEX", RICH, x -> x.mark(0, 4, 0), INDEX);
        s.refused("INDEX", RICH, x -> x.mark(0, -1, 0), INDEX);
        s.refused("INDEX without places", RICH, x -> x.mark(3, 0, 0), INDEX);
        s.refused("KIND", RICH, x -> x.mark(0, 3, NONE), KIND);
        s.refused("BAD", RICH, x -> x.mark(1, 2, 100000), BAD);
        s.refused("BAD stands ahead of NOTHING", RICH, x -> x.mark(4, -1, NONE), BAD);
        s.refused("NOTHING stands ahead of INDEX", RICH, x -> x.mark(2, -1, NONE), NOTHING);
        s.refused("INDEX stands ahead of KIND", RICH, x -> x.mark(0, 4, NONE), INDEX);
        s.refused("INDEX stands ahead of BAD", RICH, x -> x.mark(1, 3, 100000), INDEX);
    }

    private void pour() {
        s.promise(36, "LIKELY of RUNS, by numbers, become the places of a SHEET from 0 on (each held within 1 .. 99; "
            + "NO NUMBER, and beyond the SHEET: they stay): how many are otherwise then.");
        BehindWall x = new BehindWall();
        for (int i = 0; i < 10; i++) {
            x.run(0, i, 20, 1);
        }
        Sentences.fill(x, 0, 1, 1, 0, -99999, 99, 100, 99999, NONE, 20);
        s.due("how many", x.pour(0), 6);
        int[] due = {1, 1, 1, 99, 99, 99, 20, 20, 20, 20};
        for (int run = 0; run < 10; run++) {
            s.due("LIKELY of RUN " + run, x.told(run, 2), due[run]);
            s.due("ODDS of RUN " + run, x.told(run, 4), 20000);
        }
        s.due("the same again", x.pour(0), 0);
        Sentences.fill(x, 1, 0, -1, 32767, 2, 98);
        s.due("of shorts", x.pour(1), 3);
        int[] then = {1, 99, 2, 98, 99};
        for (int run = 0; run < 5; run++) {
            s.due("LIKELY of RUN " + run, x.told(run, 2), then[run]);
        }
        x.sheet(2, 0, 24);
        s.due("more places than RUNS", x.pour(2), 9);
        s.due("held", x.told(9, 2), 1);
        s.due("no places", Whole.rich().pour(3), 0);
        s.due("no RUNS", Whole.withoutRuns().pour(0), 0);
        s.due("the SHEET stays", Sentences.at(x, 1, 0), -1);
    }

    private void pourRefused() {
        s.promise(36, "how many are otherwise then. BAD; NOTHING.");
        s.refused("BAD", RICH, x -> x.pour(4), BAD);
        s.refused("BAD", RICH, x -> x.pour(-1), BAD);
        s.refused("BAD", EMPTY, x -> x.pour(HIGH), BAD);
        s.refused("NOTHING", RICH, x -> x.pour(2), NOTHING);
        s.refused("NOTHING without RUNS", EMPTY, x -> x.pour(2), NOTHING);
    }

    private void reads() {
        s.promise(37, "The first place (of numbers alone) at which a SHEET is not DEEP of that RUN "
            + "(of places that are no RUN all numbers are not).");
        BehindWall x = Sentences.runs(0, 0, 1, 4, 0, 0, 1, 6);
        int[][] rows = {{5, 6, 0}, {4, 5, 1}, {NONE, 5, 1}, {4, NONE, 0, 2}, {4, 6, 0, 2}, {4, 6, NONE, 7, 3}, {4, 6, 6, 2}};
        for (int[] row : rows) {
            int[] places = java.util.Arrays.copyOf(row, row.length - 1);
            Sentences.fill(x, 0, 1, places);
            s.due("of floats", x.reads(0), row[row.length - 1]);
        }
        Sentences.fill(x, 0, 0, 4, 6, 0);
        s.due("of shorts, no RUN", x.reads(0), 2);
        Sentences.fill(x, 0, 0, 4 + 65536, 6);
        s.due("of shorts, as they became", x.reads(0), NONE);
        x.sheet(0, 0, 24);
        s.due("of 24", x.reads(0), 0);
        BehindWall without = new BehindWall();
        Sentences.fill(without, 0, 1, NONE, NONE, 0);
        s.due("without RUNS", without.reads(0), 2);
    }

    private void readsRefused() {
        s.promise(37, "BAD; NOTHING; NONE: there is none.");
        s.refused("BAD", RICH, x -> x.reads(4), BAD);
        s.refused("BAD", RICH, x -> x.reads(-1), BAD);
        s.refused("NOTHING", RICH, x -> x.reads(2), NOTHING);
        s.refused("NOTHING without RUNS", EMPTY, x -> x.reads(2), NOTHING);
        s.refused("NONE without places", RICH, x -> x.reads(3), NONE);
        BehindWall x = Sentences.runs(0, 0, 1, 4, 0, 0, 1, 6);
        Sentences.fill(x, 0, 1, 4, 6);
        s.due("NONE, all are DEEP", x.reads(0), NONE);
        Sentences.fill(x, 0, 1, 4);
        s.due("NONE, RUNS beyond", x.reads(0), NONE);
        Sentences.fill(x, 0, 1, NONE, NONE, NONE, NONE);
        s.due("NONE, no numbers", x.reads(0), NONE);
    }

    /** The SHEET holds these. */
    private void holds(BehindWall x, int sheet, int... due) {
        x.lay(4, 2, sheet);
        for (int place = 0; place < due.length; place++) {
            s.due("SHEET " + sheet + " at " + place, x.item(4, place), due[place]);
        }
        s.due("no more", x.item(4, due.length), INDEX);
    }

    private void copy() {
        s.promise(38, "So many places of a SHEET come to another one (or the same), as they were: many.");
        BehindWall x = new BehindWall();
        Sentences.fill(x, 0, 0, 1, 2, 3, 4);
        Sentences.fill(x, 1, 0, 7, 8, 9);
        s.due("two", x.copy(0, 1, 1, 0, 2), 2);
        holds(x, 1, 2, 3, 9);
        holds(x, 0, 1, 2, 3, 4);
        s.due("the last one", x.copy(0, 3, 1, 2, 1), 1);
        holds(x, 1, 2, 3, 4);
        s.due("none", x.copy(0, 0, 1, 0, 0), 0);
        s.due("none, right behind the last ones", x.copy(0, 4, 1, 3, 0), 0);
        holds(x, 1, 2, 3, 4);
        s.due("all of them", x.copy(1, 0, 0, 1, 3), 3);
        holds(x, 0, 1, 2, 3, 4);
        Sentences.fill(x, 2, 1, NONE, 99999, 5);
        x.sheet(3, 1, 3);
        s.due("of floats", x.copy(2, 0, 3, 1, 2), 2);
        holds(x, 3, 0, KIND, 99999);
        x.sheet(0, 0, 24);
        x.sheet(1, 0, 24);
        x.mark(0, 23, 6);
        s.due("24", x.copy(0, 0, 1, 0, 24), 24);
        s.due("the last of 24", Sentences.at(x, 1, 23), 6);
        x.sheet(2, 1, 0);
        s.due("none of no places", x.copy(2, 0, 3, 0, 0), 0);
    }

    private void copyWithin() {
        s.promise(38, "(or the same), as they were");
        BehindWall x = new BehindWall();
        Sentences.fill(x, 0, 0, 1, 2, 3, 4, 5);
        s.due("upwards", x.copy(0, 0, 0, 1, 4), 4);
        holds(x, 0, 1, 1, 2, 3, 4);
        s.due("downwards", x.copy(0, 2, 0, 0, 3), 3);
        holds(x, 0, 2, 3, 4, 3, 4);
        s.due("where they are", x.copy(0, 0, 0, 0, 5), 5);
        holds(x, 0, 2, 3, 4, 3, 4);
    }

    private void copyRefused() {
        s.promise(38, "BAD; NOTHING; KIND: they are not of one sort; INDEX.");
        s.refused("BAD from", RICH, x -> x.copy(4, 0, 0, 0, 1), BAD);
        s.refused("BAD from", RICH, x -> x.copy(-1, 0, 0, 0, 1), BAD);
        s.refused("BAD to", RICH, x -> x.copy(0, 0, 4, 0, 1), BAD);
        s.refused("BAD to", RICH, x -> x.copy(0, 0, -1, 0, 1), BAD);
        s.refused("NOTHING from", RICH, x -> x.copy(2, 0, 0, 0, 0), NOTHING);
        s.refused("NOTHING to", RICH, x -> x.copy(0, 0, 2, 0, 0), NOTHING);
        s.refused("NOTHING, the same", RICH, x -> x.copy(2, 0, 2, 0, 0), NOTHING);
        s.refused("KIND", RICH, x -> x.copy(0, 0, 1, 0, 1), KIND);
        s.refused("KIND", RICH, x -> x.copy(1, 0, 0, 0, 1), KIND);
        s.refused("KIND of none", RICH, x -> x.copy(1, 0, 3, 0, 0), KIND);
        s.refused("BAD stands ahead of NOTHING", RICH, x -> x.copy(2, 0, 4, 0, 1), BAD);
        s.refused("BAD stands ahead of NOTHING", RICH, x -> x.copy(-1, 0, 2, 0, 1), BAD);
        s.refused("NOTHING stands ahead of INDEX", RICH, x -> x.copy(0, 9, 2, 9, 9), NOTHING);
        s.refused("NOTHING stands ahead of INDEX", RICH, x -> x.copy(2, -1, 1, -1, -1), NOTHING);
        s.refused("KIND stands ahead of INDEX", RICH, x -> x.copy(0, 9, 1, 9, 9), KIND);
        s.refused("KIND stands ahead of INDEX", RICH, x -> x.copy(1, 0, 0, 0, -1), KIND);
    }

    private void copyBeyond() {
        s.promise(38, "INDEX. (From a SHEET, its place, to a SHEET, its place.)");
        // from SHEET 0 (four places) to SHEET 3 (two)
        Supplier<BehindWall> made = () -> {
            BehindWall x = Whole.rich();
            Sentences.fill(x, 3, 0, 8, 9);
            return x;
        };
        int[][] beyond = {{0, 0, 3}, {0, 1, 2}, {0, 2, 1}, {3, 0, 2}, {4, 0, 1}, {5, 0, 0}, {0, 3, 0}, {-1, 0, 1},
            {0, -1, 1}, {-1, 0, 0}, {0, -1, 0}, {0, 0, -1}, {1, 1, -1}, {0, 0, LOW}, {0, 0, HIGH}, {HIGH, 0, 1},
            {0, HIGH, 1}, {HIGH, HIGH, HIGH}, {LOW, LOW, LOW}, {LOW, 0, 1}, {1, 1, HIGH}};
        for (int[] b : beyond) {
            s.refused("copy " + b[0] + " " + b[1] + " " + b[2], made, x -> x.copy(0, b[0], 3, b[1], b[2]), INDEX);
        }
        s.refused("of the same", RICH, x -> x.copy(0, 0, 0, 1, 4), INDEX);
        s.refused("of the same", RICH, x -> x.copy(0, 1, 0, 0, 4), INDEX);
        s.refused("to no places", RICH, x -> x.copy(0, 0, 3, 0, 1), INDEX);
        int[][] within = {{0, 0, 2}, {2, 0, 2}, {3, 1, 1}, {4, 2, 0}, {0, 0, 0}};
        for (int[] w : within) {
            s.due("copy " + w[0] + " " + w[1] + " " + w[2], made.get().copy(0, w[0], 3, w[1], w[2]), w[2]);
        }
    }

    private void lay() {
        s.promise(39, "A SLOT holds: thing 0 nothing, 1 RUN k, 2 SHEET k, 3 the number k: what it held (0 .. 3).");
        BehindWall x = Whole.rich();
        for (int slot = 0; slot < 5; slot++) {
            x.lay(slot, 0, 0);
            s.due("nothing was there", x.lay(slot, 1, 5), 0);
            s.due("a RUN was there", x.lay(slot, 2, 0), 1);
            s.due("a SHEET was there", x.lay(slot, 3, LOW), 2);
            s.due("a number was there", x.lay(slot, 3, 0), 3);
            s.due("a number was there", x.lay(slot, 0, HIGH), 3);
            s.due("nothing was there, k any", x.lay(slot, 0, LOW), 0);
        }
        x.lay(0, 1, 5);
        s.due("RUN 5", x.ask(0, 5), 2);
        x.lay(0, 2, 0);
        s.due("SHEET 0", x.item(0, 1), 20);
        x.lay(0, 3, -8);
        s.due("the number", x.rest(0, 100), -8);
        x.lay(0, 0, 5);
        s.due("nothing", x.rest(0, 100), NOTHING);
        s.due("a SHEET without places", x.lay(0, 2, 3), 0);
        s.due("it has none", x.item(0, 0), INDEX);
    }

    private void layRefused() {
        s.promise(39, "BAD: slot, thing, k; NOTHING: that SHEET is MISSING.");
        s.onlyWithin("thing", RICH, 0, 3, (x, thing) -> x.lay(0, thing, 0));
        s.onlyWithin("RUN k", RICH, 0, 5, (x, k) -> x.lay(1, 1, k));
        s.onlyWithin("RUN k of ten", FILLED, 0, 9, (x, k) -> x.lay(0, 1, k));
        s.refused("RUN 0 of none", EMPTY, x -> x.lay(1, 1, 0), BAD);
        for (int k : new int[] {-1, 4, LOW, HIGH}) {
            s.refused("SHEET " + k, RICH, x -> x.lay(1, 2, k), BAD);
        }
        for (int slot : new int[] {-1, 5, LOW, HIGH}) {
            for (int thing = 0; thing < 4; thing++) {
                int laid = thing;
                s.refused("SLOT " + slot, RICH, x -> x.lay(slot, laid, 0), BAD);
            }
            s.refused("BAD stands ahead of NOTHING", RICH, x -> x.lay(slot, 2, 2), BAD);
        }
        s.refused("NOTHING", RICH, x -> x.lay(1, 2, 2), NOTHING);
        s.refused("NOTHING", RICH, x -> x.lay(4, 2, 2), NOTHING);
        for (int k : new int[] {LOW, -1, 0, HIGH}) {
            s.due("any number", Whole.rich().lay(3, 3, k), 3);
        }
    }

    private void ask() {
        s.promise(40, "WORTH of the RUN in a SLOT, taken for one of a KIND (0 .. 5).");
        int[][] above = {{0}, {0, 1}, {0, 2}, {0, 1, 3}, {0, 2, 4}, {0, 5}};
        int[] worth = {3, 12, 96, 24, 91, 2};
        for (int kind = 0; kind < 6; kind++) {
            BehindWall x = Sentences.runs(kind, 0, 1, 3);
            x.lay(4, 1, 0);
            int[] due = {KIND, KIND, KIND, KIND, KIND, KIND};
            for (int a : above[kind]) {
                due[a] = worth[kind];
            }
            for (int k = 0; k < 6; k++) {
                s.due("KIND " + kind + " taken for " + k, x.ask(4, k), due[k]);
            }
        }
    }

    private void askRefused() {
        s.promise(40, "BAD; NOTHING; KIND: it is no RUN, or not of that KIND, nor of one under it.");
        for (int v : new int[] {-1, LOW, HIGH}) {
            s.refused("SLOT " + v, RICH, x -> x.ask(v, 0), BAD);
            s.refused("KIND " + v, RICH, x -> x.ask(0, v), BAD);
            s.refused("BAD stands ahead of NOTHING", RICH, x -> x.ask(4, v), BAD);
            s.refused("BAD stands ahead of KIND", RICH, x -> x.ask(3, v), BAD);
        }
        s.refused("SLOT 5", RICH, x -> x.ask(5, 0), BAD);
        s.refused("KIND 6", RICH, x -> x.ask(0, 6), BAD);
        s.refused("NOTHING", RICH, x -> x.ask(4, 0), NOTHING);
        s.refused("a SHEET", RICH, x -> x.ask(1, 0), KIND);
        s.refused("a number", RICH, x -> x.ask(3, 0), KIND);
        for (int kind : new int[] {1, 3, 4, 5}) {
            s.refused("a PIPE for " + kind, RICH, x -> x.ask(0, kind), KIND);
        }
        s.due("a PIPE for a PIPE", Whole.rich().ask(0, 2), 95);
        s.due("a PIPE for a RUN", Whole.rich().ask(0, 0), 95);
    }

    private void item() {
        s.promise(41, "A place of the SHEET in a SLOT.");
        BehindWall x = new BehindWall();
        Sentences.fill(x, 0, 0, -32768, 0, 32767);
        Sentences.fill(x, 1, 1, 99999, NONE, -99999);
        x.lay(0, 2, 0);
        x.lay(4, 2, 1);
        int[][] due = {{-32768, 0, 32767}, {99999, KIND, -99999}};
        for (int place = 0; place < 3; place++) {
            s.due("of shorts", x.item(0, place), due[0][place]);
            s.due("of floats", x.item(4, place), due[1][place]);
        }
        x.sheet(2, 0, 24);
        x.mark(2, 23, 5);
        x.lay(1, 2, 2);
        s.due("the last of 24", x.item(1, 23), 5);
        s.due("none behind it", x.item(1, 24), INDEX);
    }

    private void itemRefused() {
        s.promise(41, "BAD: slot; NOTHING; KIND: it is no SHEET; INDEX; KIND: NO NUMBER.");
        for (int slot : new int[] {-1, 5, LOW, HIGH}) {
            s.refused("SLOT " + slot, RICH, x -> x.item(slot, 0), BAD);
            s.refused("BAD stands first", RICH, x -> x.item(slot, -1), BAD);
        }
        s.refused("NOTHING", RICH, x -> x.item(4, 0), NOTHING);
        s.refused("NOTHING stands ahead of INDEX", RICH, x -> x.item(4, -1), NOTHING);
        s.refused("a RUN", RICH, x -> x.item(0, 0), KIND);
        s.refused("a number", RICH, x -> x.item(3, 0), KIND);
        s.refused("KIND stands ahead of INDEX", RICH, x -> x.item(0, -1), KIND);
        s.refused("KIND stands ahead of INDEX", RICH, x -> x.item(3, 24), KIND);
        for (int place : new int[] {-1, 3, LOW, HIGH}) {
            s.refused("INDEX " + place, RICH, x -> x.item(2, place), INDEX);
        }
        s.refused("NO NUMBER", RICH, x -> x.item(2, 0), KIND);
        // what a SLOT held before is gone: four places, then none
        BehindWall x = Whole.rich();
        x.lay(1, 2, 3);
        s.due("of no places", x.item(1, 0), INDEX);
    }

    private void rest() {
        s.promise(42, "The rest of the number in a SLOT by n.");
        int[][] due = {{17, 5, 2}, {-17, 5, -2}, {17, -5, 2}, {-17, -5, -2}, {0, 9, 0}, {9, 9, 0}, {8, 9, 8}, {5, 1, 0},
            {LOW, -1, 0}, {LOW, HIGH, -1}, {HIGH, LOW, HIGH}, {LOW, LOW, 0}, {LOW, 10, -8}};
        for (int[] d : due) {
            BehindWall x = new BehindWall();
            x.lay(4, 3, d[0]);
            s.due(d[0] + " by " + d[1], x.rest(4, d[1]), d[2]);
        }
    }

    private void restRefused() {
        s.promise(42, "BAD: slot; NOTHING; KIND: it is no number; NO: n is 0.");
        for (int slot : new int[] {-1, 5, LOW, HIGH}) {
            s.refused("SLOT " + slot, RICH, x -> x.rest(slot, 1), BAD);
            s.refused("BAD stands ahead of NO", RICH, x -> x.rest(slot, 0), BAD);
        }
        s.refused("NOTHING", RICH, x -> x.rest(4, 1), NOTHING);
        s.refused("NOTHING stands ahead of NO", RICH, x -> x.rest(4, 0), NOTHING);
        s.refused("a RUN", RICH, x -> x.rest(0, 1), KIND);
        s.refused("a SHEET", RICH, x -> x.rest(1, 1), KIND);
        s.refused("KIND stands ahead of NO", RICH, x -> x.rest(0, 0), KIND);
        s.refused("KIND stands ahead of NO", RICH, x -> x.rest(2, 0), KIND);
        s.refused("NO", RICH, x -> x.rest(3, 0), NO);
        s.due("1 is not 0", Whole.rich().rest(3, 1), 0);
        s.due("-1 is not 0", Whole.rich().rest(3, -1), 0);
    }

    private void tell() {
        s.promise(43, "One more number waits: how many.");
        BehindWall x = new BehindWall();
        for (int i = 1; i <= 60; i++) {
            s.due("how many", x.tell(i % 2 == 0 ? LOW : HIGH), i);
        }
    }

    private void tellFull() {
        s.promise(43, "FULL: 60 wait.");
        BehindWall x = new BehindWall();
        for (int i = 0; i < 59; i++) {
            x.tell(0);
        }
        s.due("the last one", x.tell(0), 60);
        s.due("one too many", x.tell(0), FULL);
        s.due("as many as before", x.count(5), 60);
        s.refused("FULL", FILLED, y -> y.tell(5), FULL);
        x.check(1);
        s.due("room again", x.tell(0), 1);
    }

    /** THE STEPS TOLD by the IMAGE of imaged(), by STEPS on another object. */
    private static int[] stepsTold(int n) {
        BehindWall y = imaged();
        y.back();
        int[] told = new int[2 * n];
        for (int i = 0; i < n; i++) {
            y.steps(1);
            told[2 * i] = y.house(5);
            told[2 * i + 1] = y.house(8);
        }
        return told;
    }

    /** Its IMAGE is not as it is now. */
    private static BehindWall imaged() {
        return Whole.withNoneWaiting();
    }

    private static BehindWall waiting(int[] numbers, int many) {
        BehindWall x = imaged();
        for (int i = 0; i < many; i++) {
            x.tell(numbers[i]);
        }
        return x;
    }

    private void check() {
        s.promise(44, "are THE STEPS TOLD of n (1 .. 30;");
        int[] told = stepsTold(30);
        for (int n : new int[] {1, 2, 15, 29, 30}) {
            s.due("of " + n, waiting(told, 2 * n).check(n), 0);
        }
        for (int n : new int[] {0, 31, -1, LOW, HIGH}) {
            s.due("n " + n, waiting(told, 60).check(n), BAD);
        }
        BehindWall x = waiting(told, 10);
        x.check(5);
        s.same("nothing changes, but that none wait", x, imaged());
    }

    private void checkLets() {
        s.promise(44, "The numbers that wait (none do then, whatever is answered)");
        int[] told = stepsTold(3);
        for (int n : new int[] {3, 2, 1, 4, 0, 31}) {
            BehindWall x = waiting(told, 6);
            x.check(n);
            s.due("none wait behind check " + n, x.count(5), 0);
            s.due("the next is the first", x.tell(5), 1);
        }
        BehindWall without = new BehindWall();
        without.tell(1);
        s.due("without an IMAGE", without.check(1), NO);
        s.due("none wait", without.count(5), 0);
    }

    private void checkTwoByTwo() {
        s.promise(44, "two by two: 0");
        int[] told = stepsTold(2);
        s.due("in their order", waiting(told, 4).check(2), 0);
        s.dueTrue("all are not the same", told[0] != told[1] && told[0] != told[2]);
        s.due("all MINUTES first", waiting(new int[] {told[0], told[2], told[1], told[3]}, 4).check(2), 2);
        s.due("the RUN first", waiting(new int[] {told[1], told[0], told[3], told[2]}, 4).check(2), 1);
        s.due("the last STEP first", waiting(new int[] {told[2], told[3], told[0], told[1]}, 4).check(2), 1);
    }

    private void checkFewer() {
        s.promise(44, "fewer, if THE STEP would be above 9999");
        BehindWall x = new BehindWall();
        Sentences.stepsUpTo(x, 9997);
        x.keep();
        int[][] rows = {{1, 1, 0}, {2, 2, 0}, {3, 2, 0}, {30, 2, 0}, {3, 3, 5}, {3, 1, 3}, {1, 2, 3}};
        for (int[] row : rows) {
            for (int i = 0; i < row[1]; i++) {
                x.tell(0);
                x.tell(-1);
            }
            s.due(row[1] + " told of " + row[0], x.check(row[0]), row[2]);
        }
        x.steps(2);
        x.tell(0);
        x.tell(-1);
        s.due("by THE STEP of THE IMAGE", x.check(1), 0);
        x.keep();
        s.due("none at 9999", x.check(30), 0);
        x.tell(0);
        s.due("one too many at 9999", x.check(30), 1);
        BehindWall y = new BehindWall();
        y.keep();
        Sentences.stepsUpTo(y, 9999);
        y.tell(0);
        y.tell(-1);
        s.due("by THE STEP of THE IMAGE", y.check(1), 0);
    }

    private void checkFirstThatIsNot() {
        s.promise(44, "else 1 and how many stand right ahead of the first that is not (or is missing, or one too many)");
        int[] told = stepsTold(5);
        for (int at = 0; at < 10; at++) {
            int[] wrong = told.clone();
            wrong[at]++;
            s.due("wrong at " + at, waiting(wrong, 10).check(5), 1 + at);
            s.due("missing at " + at, waiting(told, at).check(5), 1 + at);
            wrong[9] = -7;
            s.due("the first of two", waiting(wrong, 10).check(5), 1 + at);
        }
        s.due("one too many", waiting(told, 10).check(4), 9);
        s.due("one too many, just one", waiting(told, 9).check(4), 9);
        s.due("wrong ahead of one too many", waiting(new int[] {told[0], -7, 0}, 3).check(1), 2);
        s.due("none wait", imaged().check(30), 1);
        s.due("60 wait", waiting(stepsTold(30), 60).check(29), 59);
    }

    private void checkRefused() {
        s.promise(44, "BAD; NO: there is no IMAGE.");
        for (int n : new int[] {0, 31, -1, LOW, HIGH}) {
            BehindWall x = Whole.rich();
            s.due("BAD", x.check(n), BAD);
            s.same("but the numbers that wait, nothing changes", x, Whole.withNoneWaiting());
            s.due("BAD stands ahead of NO", new BehindWall().check(n), BAD);
        }
        for (int n : new int[] {1, 30}) {
            BehindWall x = Whole.withoutRuns();
            s.due("NO", x.check(n), NO);
            BehindWall y = Whole.withoutRuns();
            y.check(0);
            s.same("but the numbers that wait, nothing changes", x, y);
        }
    }

    private void keep() {
        s.promise(45, "AN IMAGE is kept: how many RUNS.");
        BehindWall x = new BehindWall();
        s.due("none", x.keep(), 0);
        x.deal(10);
        s.due("ten", x.keep(), 10);
        s.due("ten again", x.keep(), 10);
        BehindWall y = Whole.rich();
        y.keep();
        BehindWall z = Whole.rich();
        z.keep();
        z.back();
        s.same("back to what is", y, z);
    }

    private void back() {
        s.promise(46, "All is as THE IMAGE: how many RUNS. NO: there is none.");
        s.refused("NO", EMPTY, x -> x.back(), NO);
        s.refused("NO", BehindWall::new, x -> x.back(), NO);
        s.refused("NO", FILLED, x -> x.back(), NO);
        BehindWall x = new BehindWall();
        x.keep();
        x.deal(10);
        s.due("to none", x.back(), 0);
        s.due("RUNS", x.count(0), 0);
        s.due("no RUN 0", x.told(0, 0), BAD);
        s.due("z", x.count(7), 1);
        x.deal(3);
        x.keep();
        x.deal(5);
        s.due("to three", x.back(), 3);
        s.due("one more has the next number", x.run(0, 0, 7, 1), 3);
        s.due("its ODDS", x.told(3, 4), 7000);
    }

    private void count() {
        s.promise(47, "0 how many RUNS, 1 THE STEP, 2 SLIP, 3 MAINS, 4 TEXTS, 5 numbers that wait, "
            + "6 bytes of THE TAPE, 7 z. BAD.");
        BehindWall x = Whole.full();
        x.rule(0, 33);
        x.rule(1, 0);
        x.steps(21);
        x.seed(-99);
        int[] due = {10, 21, 33, 0, 14, 60, 96, -99};
        for (int what = 0; what < 8; what++) {
            s.due("count " + what, x.count(what), due[what]);
        }
        s.onlyWithin("what", RICH, 0, 7, (y, what) -> y.count(what));
        s.onlyWithin("what without RUNS", EMPTY, 0, 7, (y, what) -> y.count(what));
    }
}

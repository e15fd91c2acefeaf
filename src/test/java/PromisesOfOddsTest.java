import java.util.function.Supplier;

/** Promises 17 to 33 (what is likely, what will be, texts), sentence by sentence. */
public final class PromisesOfOddsTest {
    private static final int BAD = BehindWall.BAD, NO = BehindWall.NO, FULL = BehindWall.FULL, NONE = BehindWall.NONE,
        NOTHING = BehindWall.NOTHING;
    private static final int LOW = Integer.MIN_VALUE, HIGH = Integer.MAX_VALUE;
    private static final Supplier<BehindWall> RICH = Whole::rich, UNBUILT = Whole::unbuilt, EMPTY = Whole::withoutRuns,
        FILLED = Whole::full;
    private final Sentences s;

    private PromisesOfOddsTest(Sentences s) {
        this.s = s;
    }

    public static void main(String[] args) throws Exception {
        PromisesOfOddsTest t = new PromisesOfOddsTest(new Sentences());
        t.chance();
        t.risk();
        t.where();
        t.whereRefused();
        t.safe();
        t.learn();
        t.learnRefused();
        t.worthiest();
        t.worthiestRefused();
        t.fits();
        t.fitsRefused();
        t.behind();
        t.behindRefused();
        t.when();
        t.slipped();
        t.slippedRefused();
        t.fee();
        t.fine();
        t.feed();
        t.feedFull();
        t.trim();
        t.text();
        t.textRefused();
        t.textTold();
        t.why();
        t.s.end("PromisesOfOddsTest", 17, 33);
    }

    private void chance() {
        s.promise(17, "CHANCE of a CELL. BAD; NONE: there are no RUNS.");
        BehindWall x = Sentences.runs(0, 0, 1, 9, 5, 0, 2, 9);
        s.due("some", x.chance(3), 666);
        s.due("all", x.chance(0), 1000);
        s.due("none", x.chance(35), 0);
        s.onlyWithin("cell", RICH, 0, 35, (y, cell) -> y.chance(cell));
        s.refused("NONE", EMPTY, y -> y.chance(0), NONE);
        s.refused("BAD stands ahead of NONE", EMPTY, y -> y.chance(36), BAD);
        s.refused("BAD stands ahead of NONE", EMPTY, y -> y.chance(-1), BAD);
    }

    private void risk() {
        s.promise(18, "RISK at a CELL for a depth (1 .. 9). BAD; NONE: there are no RUNS.");
        BehindWall x = Sentences.runs(0, 0, 1, 1, 0, 1, 2, 9);
        s.due("the least depth", x.risk(0, 1), 333);
        s.due("not so deep", x.risk(1, 8), 0);
        s.due("the greatest", x.risk(1, 9), 6000);
        s.onlyWithin("cell", RICH, 0, 35, (y, cell) -> y.risk(cell, 9));
        s.onlyWithin("depth", RICH, 1, 9, (y, depth) -> y.risk(14, depth));
        s.refused("NONE", EMPTY, y -> y.risk(0, 1), NONE);
        s.refused("BAD stands ahead of NONE", EMPTY, y -> y.risk(36, 1), BAD);
        s.refused("BAD stands ahead of NONE", EMPTY, y -> y.risk(0, 0), BAD);
        s.refused("BAD stands ahead of NONE", EMPTY, y -> y.risk(0, 10), BAD);
    }

    private void where() {
        s.promise(19, "WHERE, for a depth (1 .. 9), WISHED by a SHEET: what 0 the CELL, 1 RISK.");
        BehindWall x = Sentences.runs(0, 0, 1, 1, 0, 1, 2, 9);
        Sentences.fill(x, 0, 0, 0, 1);
        int[][] due = {{1, 1, 0}, {8, 1, 0}, {9, 0, 333}};
        for (int[] d : due) {
            s.due("the CELL for " + d[0], x.where(0, d[0], 0), d[1]);
            s.due("RISK for " + d[0], x.where(0, d[0], 1), d[2]);
        }
        s.onlyWithin("depth", RICH, 1, 9, (y, depth) -> y.where(0, depth, 0));
        s.onlyWithin("what", RICH, 0, 1, (y, what) -> y.where(0, 9, what));
    }

    private void whereRefused() {
        s.promise(19, "BAD; NOTHING; NONE: nothing is WISHED, there are no RUNS.");
        s.refused("a SHEET", RICH, x -> x.where(4, 1, 0), BAD);
        s.refused("a SHEET", RICH, x -> x.where(-1, 1, 0), BAD);
        s.refused("NOTHING", RICH, x -> x.where(2, 1, 0), NOTHING);
        s.refused("no places", RICH, x -> x.where(3, 1, 0), NONE);
        s.refused("no RUNS", EMPTY, x -> x.where(0, 1, 1), NONE);
        s.refused("neither", EMPTY, x -> x.where(3, 1, 1), NONE);
        s.refused("BAD stands ahead of NOTHING", RICH, x -> x.where(2, 0, 0), BAD);
        s.refused("BAD stands ahead of NOTHING", RICH, x -> x.where(2, 1, 2), BAD);
        s.refused("BAD stands ahead of NONE", EMPTY, x -> x.where(3, 10, 0), BAD);
        s.refused("NOTHING stands ahead of NONE", EMPTY, x -> x.where(2, 1, 0), NOTHING);
    }

    private void safe() {
        s.promise(20, "SAFE of a CELL with a RISK (0 .. 99999). BAD; NONE: there are no RUNS.");
        BehindWall x = new BehindWall();
        for (int i = 0; i < 10; i++) {
            x.run(3, 0, 99, 4);
        }
        s.due("the least", x.safe(0, 0), 3);
        s.due("9000 is the RISK", x.safe(0, 8999), 3);
        s.due("9000 is the RISK", x.safe(0, 9000), 9);
        Dues.text(x, "hurt 99");
        s.due("the greatest, and RISK is more", x.safe(0, 99999), 3);
        s.onlyWithin("cell", RICH, 0, 35, (y, cell) -> y.safe(cell, 500));
        s.onlyWithin("most", RICH, 0, 99999, (y, most) -> y.safe(14, most));
        s.refused("NONE", EMPTY, y -> y.safe(0, 0), NONE);
        s.refused("BAD stands ahead of NONE", EMPTY, y -> y.safe(36, 0), BAD);
        s.refused("BAD stands ahead of NONE", EMPTY, y -> y.safe(0, 100000), BAD);
        s.refused("BAD stands ahead of NONE", EMPTY, y -> y.safe(0, -1), BAD);
    }

    private void learn() {
        s.promise(21, "LEARN of a sort at a CELL, WISHED by a SHEET, for a depth (1 .. 9).");
        BehindWall x = Sentences.runs(0, 0, 1, 1, 0, 1, 1, 9);
        Sentences.fill(x, 3, 0, 0, 1);
        s.due("not so deep", x.learn(3, 0, 3, 8), 0);
        s.due("the greatest depth", x.learn(3, 0, 3, 9), 500);
        x.set(1, 3, 1);
        s.due("the least depth", x.learn(3, 0, 3, 1), 500);
        s.onlyWithin("sort", RICH, 0, 3, (y, sort) -> y.learn(sort, 14, 0, 9));
        s.onlyWithin("cell", RICH, 0, 35, (y, cell) -> y.learn(1, cell, 0, 9));
        s.onlyWithin("depth", RICH, 1, 9, (y, depth) -> y.learn(1, 14, 0, depth));
    }

    private void learnRefused() {
        s.promise(21, "BAD; NOTHING; NONE: nothing is WISHED, there are no RUNS.");
        s.refused("a SHEET", RICH, x -> x.learn(0, 0, 4, 1), BAD);
        s.refused("a SHEET", RICH, x -> x.learn(0, 0, -1, 1), BAD);
        s.refused("NOTHING", RICH, x -> x.learn(0, 0, 2, 1), NOTHING);
        s.refused("no places", RICH, x -> x.learn(0, 0, 3, 1), NONE);
        s.refused("no RUNS", EMPTY, x -> x.learn(0, 0, 0, 1), NONE);
        s.refused("BAD stands ahead of NOTHING", RICH, x -> x.learn(4, 0, 2, 1), BAD);
        s.refused("BAD stands ahead of NOTHING", RICH, x -> x.learn(0, 36, 2, 1), BAD);
        s.refused("BAD stands ahead of NOTHING", RICH, x -> x.learn(0, 0, 2, 10), BAD);
        s.refused("BAD stands ahead of NONE", EMPTY, x -> x.learn(-1, 0, 0, 1), BAD);
        s.refused("NOTHING stands ahead of NONE", EMPTY, x -> x.learn(0, 0, 2, 1), NOTHING);
    }

    private void worthiest() {
        s.promise(22, "WORTHIEST, WISHED by a SHEET, for a depth (1 .. 9): what 0 the sort, 1 the CELL, 2 LEARN.");
        BehindWall x = Sentences.runs(0, 4, 1, 1, 0, 5, 1, 9);
        Sentences.fill(x, 3, 1, 4, 5, NONE);
        int[][] due = {{9, 3, 4, 500}, {8, 0, 0, 0}, {1, 0, 0, 0}};
        for (int[] d : due) {
            for (int what = 0; what < 3; what++) {
                s.due("what " + what + " for " + d[0], x.worthiest(3, d[0], what), d[1 + what]);
            }
        }
        s.onlyWithin("depth", RICH, 1, 9, (y, depth) -> y.worthiest(0, depth, 0));
        s.onlyWithin("what", RICH, 0, 2, (y, what) -> y.worthiest(0, 9, what));
    }

    private void worthiestRefused() {
        s.promise(22, "BAD; NOTHING; NONE: nothing is WISHED, there are no RUNS.");
        s.refused("a SHEET", RICH, x -> x.worthiest(4, 1, 0), BAD);
        s.refused("a SHEET", RICH, x -> x.worthiest(-1, 1, 0), BAD);
        s.refused("NOTHING", RICH, x -> x.worthiest(2, 1, 0), NOTHING);
        s.refused("no places", RICH, x -> x.worthiest(3, 1, 0), NONE);
        s.refused("no RUNS", EMPTY, x -> x.worthiest(0, 1, 2), NONE);
        s.refused("BAD stands ahead of NOTHING", RICH, x -> x.worthiest(2, 10, 0), BAD);
        s.refused("BAD stands ahead of NOTHING", RICH, x -> x.worthiest(2, 1, 3), BAD);
        s.refused("BAD stands ahead of NONE", EMPTY, x -> x.worthiest(0, 0, 0), BAD);
        s.refused("NOTHING stands ahead of NONE", EMPTY, x -> x.worthiest(2, 1, 0), NOTHING);
    }

    private void fits() {
        s.promise(23, "FITS by a SHEET: what 0 the RUN, 1 how many places.");
        BehindWall x = Sentences.runs(0, 0, 1, 1, 2, 0, 1, 1);
        Sentences.fill(x, 0, 0, 6, 1, 2, 99);
        s.due("the RUN", x.fits(0, 0), 1);
        s.due("how many", x.fits(0, 1), 2);
        x.sheet(0, 0, 0);
        s.due("no places", x.fits(0, 0), 0);
        s.due("no places", x.fits(0, 1), 0);
    }

    private void fitsRefused() {
        s.promise(23, "BAD; NOTHING; NONE: there are no RUNS.");
        s.onlyWithin("what", RICH, 0, 1, (x, what) -> x.fits(0, what));
        s.refused("a SHEET", RICH, x -> x.fits(4, 0), BAD);
        s.refused("a SHEET", RICH, x -> x.fits(-1, 0), BAD);
        s.refused("NOTHING", RICH, x -> x.fits(2, 0), NOTHING);
        s.refused("NONE", EMPTY, x -> x.fits(0, 0), NONE);
        s.refused("BAD stands ahead of NOTHING", RICH, x -> x.fits(2, 2), BAD);
        s.refused("BAD stands ahead of NONE", EMPTY, x -> x.fits(0, -1), BAD);
        s.refused("NOTHING stands ahead of NONE", EMPTY, x -> x.fits(2, 1), NOTHING);
        s.due("no places, but RUNS", Whole.rich().fits(3, 0), 0);
    }

    private void behind() {
        s.promise(24, "BEHIND n (0 .. 100) STEPS: what 0 MINUTES, 1 SLIPS, 2 the RUN with the greatest ODDS; "
            + "3 and k: ODDS of RUN k.");
        BehindWall x = Whole.rich();
        s.due("MINUTES now", x.behind(0, 0), x.house(5));
        s.due("SLIPS now", x.behind(0, 1), x.house(4));
        s.due("the greatest now", x.behind(0, 2), x.house(8));
        for (int run = 0; run < 6; run++) {
            s.due("ODDS now", x.behind(0, 3 + run), x.told(run, 4));
        }
        int minutes = x.behind(100, 0);
        int slips = x.behind(100, 1);
        int odds = x.behind(100, 8);
        x.steps(100);
        s.due("MINUTES", x.house(5), minutes);
        s.due("SLIPS", x.house(4), slips);
        s.due("ODDS", x.told(5, 4), odds);
        s.due("of RUN 9", Whole.full().behind(0, 12), Whole.full().told(9, 4));
    }

    private void behindRefused() {
        s.promise(24, "BAD; NONE (what 2): there are no RUNS.");
        s.onlyWithin("n", RICH, 0, 100, (x, n) -> x.behind(n, 0));
        s.onlyWithin("what, of six RUNS", RICH, 0, 8, (x, what) -> x.behind(3, what));
        s.onlyWithin("what, of ten RUNS", FILLED, 0, 12, (x, what) -> x.behind(3, what));
        for (int what : new int[] {-1, 3, LOW, HIGH}) {
            s.refused("what " + what + ", of none", EMPTY, x -> x.behind(3, what), BAD);
        }
        s.refused("NONE", EMPTY, x -> x.behind(0, 2), NONE);
        s.refused("NONE", EMPTY, x -> x.behind(100, 2), NONE);
        s.refused("BAD stands ahead of NONE", EMPTY, x -> x.behind(101, 2), BAD);
        s.refused("BAD stands ahead of NONE", EMPTY, x -> x.behind(-1, 2), BAD);
        s.due("MINUTES without RUNS", Whole.withoutRuns().behind(100, 0), 0);
        s.due("SLIPS without RUNS", Whole.withoutRuns().behind(100, 1), 0);
    }

    private void when() {
        s.promise(25, "WHEN. NONE: not by then.");
        s.refused("without RUNS", EMPTY, x -> x.when(), NONE);
        Supplier<BehindWall> alike = () -> Sentences.runs(0, 0, 9, 1, 0, 0, 9, 1);
        s.refused("two alike", alike, x -> x.when(), NONE);
        Supplier<BehindWall> late = () -> {
            BehindWall x = new BehindWall();
            x.seed(625);
            x.deal(5);
            return x;
        };
        s.refused("behind 101", late, x -> x.when(), NONE);
        BehindWall x = late.get();
        x.build();
        s.due("behind 100", x.when(), 100);
        BehindWall one = Sentences.runs(0, 0, 9, 1);
        s.due("by a BUILD", one.when(), 1);
        one.build();
        s.due("now", one.when(), 0);
    }

    private void slipped() {
        s.promise(26, "SLIPPED for n (1 .. 30): what 0 the SLIP, 1 that number of 1000.");
        BehindWall x = Sentences.runs(0, 0, 1, 1);
        x.build();
        x.run(0, 0, 1, 1);
        s.due("two alike: all are as good", x.slipped(30, 0), 0);
        s.due("two alike: half of it", x.slipped(30, 1), 500);
        x.run(0, 0, 1, 1);
        s.due("a third, cut", x.slipped(1, 1), 333);
        s.onlyWithin("n", RICH, 1, 30, (y, n) -> y.slipped(n, 0));
        s.onlyWithin("what", RICH, 0, 1, (y, what) -> y.slipped(3, what));
    }

    private void slippedRefused() {
        s.promise(26, "BAD; NO: nothing is BUILT.");
        s.refused("NO", UNBUILT, x -> x.slipped(1, 0), NO);
        s.refused("NO without RUNS", EMPTY, x -> x.slipped(30, 1), NO);
        s.refused("BAD stands ahead of NO", UNBUILT, x -> x.slipped(0, 0), BAD);
        s.refused("BAD stands ahead of NO", UNBUILT, x -> x.slipped(31, 0), BAD);
        s.refused("BAD stands ahead of NO", EMPTY, x -> x.slipped(1, 2), BAD);
        s.refused("BAD stands ahead of NO", EMPTY, x -> x.slipped(1, -1), BAD);
    }

    private void fee() {
        s.promise(27, "What fee gives.");
        BehindWall x = new BehindWall();
        s.due("COST of none", x.fee(), 0);
        Dues.text(x, "fee t-9999");
        s.due("below 0, it isn't held", x.fee(), -9999);
        Dues.text(x, "fee 9999");
        s.due("it isn't held", x.fee(), 9999);
        Dues.text(x, "fee 9999*9999*9999");
        s.due("it wraps", x.fee(), -1027349969);
    }

    private void fine() {
        s.promise(28, "What fine gives for a RUN. BAD.");
        BehindWall x = Sentences.runs(0, 0, 99, 9, 0, 0, 1, 1);
        s.due("ODDS", x.fine(0), 99000);
        s.due("ODDS", x.fine(1), 1000);
        Dues.text(x, "fine d-o");
        s.due("below 0, it isn't held", x.fine(0), -98991);
        s.due("of the other one", x.fine(1), -999);
        s.onlyWithin("run", RICH, 0, 5, (y, run) -> y.fine(run));
        s.onlyWithin("run of ten", FILLED, 0, 9, (y, run) -> y.fine(run));
        s.refused("without RUNS", EMPTY, y -> y.fine(0), BAD);
    }

    private void feed() {
        s.promise(29, "Twelve bytes come to THE TAPE, the highest of each number first: how many it has.");
        BehindWall x = new BehindWall();
        // "fee " "t+12" "34+c"
        s.due("twelve", x.feed(0x66656520, 0x742B3132, 0x33342B63), 12);
        s.due("a TEXT", x.text(), 0);
        s.due("by its bytes in their order", x.fee(), 1234);
        // each number has a byte of its highest bit: a sign that is no TEXT, at its place
        int[][] odd = {{0xE6656520, 0x742B3132, 0x33342B63, 0}, {0x66656520, 0x742BB132, 0x33342B63, 6},
            {0x66656520, 0x742B3132, 0x33342BE3, 11}};
        for (int[] o : odd) {
            BehindWall y = new BehindWall();
            y.feed(o[0], o[1], o[2]);
            s.due("a byte above 127 at " + o[3], y.text(), -100 - o[3]);
        }
        BehindWall z = new BehindWall();
        z.feed(-1, LOW, HIGH);
        s.due("any numbers", z.feed(0, 0, 0), 24);
        z.trim(1);
        s.due("behind those that are kept", z.feed(0, 0, 0), 13);
    }

    private void feedFull() {
        s.promise(29, "FULL: it would have more than 96.");
        s.refused("96 already", FILLED, x -> x.feed(1, 2, 3), FULL);
        int[][] due = {{84, 96}, {85, FULL}, {95, FULL}, {96, FULL}, {83, 95}, {0, 12}};
        for (int[] d : due) {
            BehindWall x = Whole.full();
            x.trim(d[0]);
            s.due("behind " + d[0], x.feed(1, 2, 3), d[1]);
            s.due("bytes behind " + d[0], x.count(6), d[1] == FULL ? d[0] : d[1]);
        }
        Supplier<BehindWall> almost = () -> {
            BehindWall x = Whole.full();
            x.trim(85);
            return x;
        };
        s.refused("85", almost, x -> x.feed(1, 2, 3), FULL);
    }

    private void trim() {
        s.promise(30, "THE TAPE keeps its first n bytes: n. BAD.");
        // THE TAPE has 8 bytes
        s.onlyWithin("n", RICH, 0, 8, (x, n) -> x.trim(n));
        s.onlyWithin("n of 96", FILLED, 0, 96, (x, n) -> x.trim(n));
        s.refused("1 of none", Whole::withEmptyTape, x -> x.trim(1), BAD);
        s.due("0 of none", new BehindWall().trim(0), 0);
        BehindWall x = Whole.rich();
        s.due("all of them", x.trim(8), 8);
        s.due("fewer", x.trim(6), 6);
        s.due("bytes", x.count(6), 6);
        s.due("no more come back", x.trim(7), BAD);
        s.due("a TEXT", x.text(), 3);
        s.due("by the first ones", x.fee(), 41);
    }

    private void text() {
        s.promise(31, "THE TAPE is a TEXT: its number.");
        BehindWall x = new BehindWall();
        for (int i = 0; i < 14; i++) {
            s.due("its number", Dues.text(x, i % 2 == 0 ? "fee 1" : "hurt 1"), i);
            s.due("THE TAPE is used up", x.count(6), 0);
        }
    }

    private void textRefused() {
        s.promise(31, "-100 less the place of its FAULT; FULL.");
        s.due("the first place", Dues.text(new BehindWall(), "x"), -100);
        s.due("the end of none", new BehindWall().text(), -100);
        s.due("the end of 96", Dues.text(new BehindWall(), "fee c" + " ".repeat(90) + "+"), -196);
        s.due("the last of 96", Dues.text(new BehindWall(), "fee c" + " ".repeat(90) + ")"), -195);
        BehindWall full = Whole.full();
        s.due("FULL", full.text(), FULL);
        s.due("a FAULT stands ahead of FULL", Dues.text(full, "fee c)"), -105);
        s.due("a FAULT stands ahead of FULL", full.text(), -100);
        s.due("none came", full.count(4), 14);
        BehindWall taped = Whole.full();
        taped.text();
        BehindWall trimmed = Whole.full();
        trimmed.trim(0);
        s.same("but the tape, FULL changes nothing", taped, trimmed);
        BehindWall y = Whole.withEmptyTape();
        Dues.text(y, "hurt 77+");
        s.same("but the tape, a FAULT changes nothing", y, Whole.withEmptyTape());
        BehindWall x = Whole.full();
        x.keep();
        x.back();
        s.due("FULL stays FULL by an IMAGE", x.text(), FULL);
    }

    private void textTold() {
        s.promise(32, "Of a TEXT: what 0 KEY (0 hurt, 1 fee, 2 fine), 1 how many NUMBERS and NAMES it has. BAD.");
        BehindWall x = new BehindWall();
        String[] laws = {"fine o", "hurt 1", "fee !(c<t)|7", "fine o+d*12-(o/3)", "fee " + "1+".repeat(45) + "c"};
        int[][] due = {{2, 1}, {0, 1}, {1, 3}, {2, 5}, {1, 46}};
        for (int i = 0; i < laws.length; i++) {
            Dues.text(x, laws[i]);
            s.due("KEY", x.textTold(i, 0), due[i][0]);
            s.due("how many", x.textTold(i, 1), due[i][1]);
        }
        // three TEXTS are told
        s.onlyWithin("text", RICH, 0, 2, (y, text) -> y.textTold(text, 1));
        s.onlyWithin("text of fourteen", FILLED, 0, 13, (y, text) -> y.textTold(text, 0));
        s.onlyWithin("what", RICH, 0, 1, (y, what) -> y.textTold(0, what));
        s.refused("without TEXTS", () -> Sentences.runs(0, 0, 1, 1), y -> y.textTold(0, 0), BAD);
        BehindWall back = Whole.rich();
        back.back();
        s.due("gone with the IMAGE", back.textTold(1, 0), BAD);
        s.due("one was there", back.textTold(0, 0), 0);
    }

    private void why() {
        s.promise(33, "The TEXT that counts for a KEY. BAD; NONE.");
        s.onlyWithin("key", RICH, 0, 2, (x, key) -> x.why(key));
        BehindWall x = new BehindWall();
        for (int key = 0; key < 3; key++) {
            s.due("NONE", x.why(key), NONE);
        }
        Dues.text(x, "fine 1");
        s.due("number 0", x.why(2), 0);
        s.due("NONE of another KEY", x.why(1), NONE);
        Dues.text(x, "fee 1");
        Dues.text(x, "fine 2");
        s.due("the last", x.why(2), 2);
        s.due("of its KEY", x.why(1), 1);
        s.due("BAD stands ahead of NONE", new BehindWall().why(3), BAD);
        s.due("BAD stands ahead of NONE", new BehindWall().why(-1), BAD);
    }
}

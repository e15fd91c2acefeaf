import java.util.function.Supplier;

/** Promises 1 to 16 (a new object, runs, the wall), sentence by sentence. */
public final class PromisesOfRunsTest {
    private static final int BAD = BehindWall.BAD, NO = BehindWall.NO, FULL = BehindWall.FULL, NONE = BehindWall.NONE,
        NOTHING = BehindWall.NOTHING, KIND = BehindWall.KIND;
    private static final int LOW = Integer.MIN_VALUE, HIGH = Integer.MAX_VALUE;
    private static final Supplier<BehindWall> BARE = BehindWall::new, RICH = Whole::rich, UNBUILT = Whole::unbuilt,
        EMPTY = Whole::withoutRuns, FILLED = Whole::full;
    private final Sentences s;

    private PromisesOfRunsTest(Sentences s) {
        this.s = s;
    }

    public static void main(String[] args) throws Exception {
        PromisesOfRunsTest t = new PromisesOfRunsTest(new Sentences());
        t.newObject();
        t.run();
        t.runRefused();
        t.told();
        t.as();
        t.asRefused();
        t.turns();
        t.set();
        t.setRefused();
        t.passes();
        t.tells();
        t.deal();
        t.dealRefused();
        t.seed();
        t.rule();
        t.build();
        t.buildRefused();
        t.probe();
        t.probeRefused();
        t.drill();
        t.drillRefused();
        t.steps();
        t.stepsUpTo9999();
        t.stepsSlips();
        t.house();
        t.houseGreatest();
        t.houseKnown();
        t.s.end("PromisesOfRunsTest", 1, 16);
    }

    private void newObject() {
        s.promise(1, "As told; no RUNS.");
        BehindWall x = new BehindWall();
        int[] counts = {0, 0, 10, 1, 0, 0, 0, 1};
        for (int what = 0; what < 8; what++) {
            s.due("count " + what, x.count(what), counts[what]);
        }
        int[] house = {0, 0, 0, 0, 0, 0, 0, 0, NONE, 0};
        for (int what = 0; what < 10; what++) {
            s.due("house " + what, x.house(what), house[what]);
        }
        s.due("no RUN 0", x.told(0, 0), BAD);
        s.due("no TEXT 0", x.textTold(0, 0), BAD);
        s.due("no SHEET", x.reads(0), NOTHING);
        s.due("nothing in a SLOT", x.rest(0, 1), NOTHING);
        s.due("no IMAGE", x.back(), NO);
        BehindWall y = new BehindWall();
        x.deal(10);
        s.due("each object by itself", y.count(0), 0);
    }

    private void run() {
        s.promise(2, "One more RUN: its number.");
        BehindWall x = new BehindWall();
        s.due("the first", x.run(3, 17, 42, 6), 0);
        s.due("the second", x.run(5, 35, 99, 9), 1);
        int[] due = {3, 17, 42, 6, 42000};
        for (int what = 0; what < 5; what++) {
            s.due("told " + what, x.told(0, what), due[what]);
        }
        s.due("how many", x.count(0), 2);
        BehindWall built = Whole.rich();
        s.due("one more when it is BUILT", built.run(0, 0, 1, 1), 6);
        s.due("still BUILT", built.house(7), 1);
    }

    private void runRefused() {
        s.promise(2, "BAD; FULL.");
        int[][] bad = {{-1, 0, 1, 1}, {6, 0, 1, 1}, {0, -1, 1, 1}, {0, 36, 1, 1}, {0, 0, 0, 1}, {0, 0, 100, 1},
            {0, 0, 1, 0}, {0, 0, 1, 10}, {LOW, HIGH, LOW, HIGH}};
        for (int[] b : bad) {
            s.refused("run", RICH, x -> x.run(b[0], b[1], b[2], b[3]), BAD);
            s.refused("BAD stands ahead of FULL", FILLED, x -> x.run(b[0], b[1], b[2], b[3]), BAD);
        }
        s.refused("FULL", FILLED, x -> x.run(0, 0, 1, 1), FULL);
    }

    private void told() {
        s.promise(3, "what 0 KIND, 1 CELL, 2 LIKELY, 3 DEEP, 4 ODDS, 5 HURT, 6 how many CELLS it PASSES, 7 WORTH. BAD.");
        BehindWall x = Sentences.runs(4, 26, 31, 3);
        int[] due = {4, 26, 31, 3, 31000, 10, 5, 91};
        for (int what = 0; what < 8; what++) {
            s.due("told " + what, x.told(0, what), due[what]);
        }
        s.onlyWithin("what", RICH, 0, 7, (y, what) -> y.told(5, what));
        s.onlyWithin("run", RICH, 0, 5, (y, run) -> y.told(run, 7));
        s.onlyWithin("run of ten", FILLED, 0, 9, (y, run) -> y.told(run, 0));
        s.refused("without RUNS", EMPTY, y -> y.told(0, 0), BAD);
    }

    private void as() {
        s.promise(4, "A RUN as one of a KIND: DEEP.");
        BehindWall x = Sentences.runs(3, 0, 1, 1, 3, 0, 1, 9);
        for (int kind : new int[] {0, 1, 3}) {
            s.due("as " + kind, x.as(0, kind), 1);
            s.due("as " + kind, x.as(1, kind), 9);
        }
    }

    private void asRefused() {
        s.promise(4, "BAD: run, kind; KIND: it is not of that KIND, nor of one under it.");
        s.onlyWithin("run", RICH, 0, 5, (x, run) -> x.as(run, 0));
        s.refused("kind", RICH, x -> x.as(0, 6), BAD);
        s.refused("kind", RICH, x -> x.as(0, -1), BAD);
        s.refused("a bad run of another KIND", RICH, x -> x.as(6, 5), BAD);
        s.due("the last kind", Whole.rich().as(5, 5), 7);
        // a RUN is none of those under it, and none of those beside it
        for (int[] no : new int[][] {{0, 1}, {0, 5}, {1, 3}, {2, 4}, {3, 2}, {3, 4}, {4, 1}, {4, 3}, {5, 1}, {1, 2}}) {
            s.refused("as " + no[0] + " " + no[1], RICH, x -> x.as(no[0], no[1]), KIND);
        }
        s.refused("without RUNS", EMPTY, x -> x.as(0, 0), BAD);
    }

    private void turns() {
        s.promise(5, "A RUN is of another KIND from now on: what it was. BAD.");
        BehindWall x = Whole.rich();
        int odds = x.told(1, 4);
        s.due("what it was", x.turns(1, 5), 1);
        s.due("KIND", x.told(1, 0), 5);
        s.due("it PASSES by it", x.told(1, 6), 12);
        s.due("it TELLS by it", x.tells(1, 0, 13), 1);
        s.due("it hurts by it", x.told(1, 5), 1);
        s.due("ODDS stay", x.told(1, 4), odds);
        s.due("the same again", x.turns(1, 5), 5);
        s.due("back", x.turns(1, 1), 5);
        s.same("as if nothing had been", x, Whole.rich());
        s.onlyWithin("kind", RICH, 0, 5, (y, kind) -> y.turns(0, kind));
        s.onlyWithin("run", RICH, 0, 5, (y, run) -> y.turns(run, 3));
        s.refused("without RUNS", EMPTY, y -> y.turns(0, 0), BAD);
        BehindWall one = Sentences.runs(0, 14, 1, 1);
        one.build();
        one.turns(0, 2);
        s.due("it is still TRUE", one.drill(15, 1), 10);
    }

    private void set() {
        s.promise(6, "CELL, LIKELY, DEEP (what 1 .. 3) of a RUN becomes v (ODDS stay): what it was.");
        BehindWall x = Sentences.runs(2, 14, 20, 5, 0, 0, 1, 1);
        s.due("CELL", x.set(0, 1, 35), 14);
        s.due("CELL", x.set(0, 1, 0), 35);
        s.due("it PASSES by it", x.passes(0, 0), 63);
        s.due("LIKELY", x.set(0, 2, 99), 20);
        s.due("ODDS stay", x.told(0, 4), 20000);
        s.due("LIKELY", x.set(0, 2, 1), 99);
        s.due("ODDS stay", x.told(0, 4), 20000);
        s.due("DEEP", x.set(0, 3, 9), 5);
        s.due("DEEP", x.set(0, 3, 1), 9);
        s.due("it hurts by it", x.told(0, 5), 10);
        int[] due = {2, 0, 1, 1, 20000};
        for (int what = 0; what < 5; what++) {
            s.due("told " + what, x.told(0, what), due[what]);
        }
        s.due("the other one stays", x.told(1, 2), 1);
    }

    private void setRefused() {
        s.promise(6, "what it was. BAD.");
        s.onlyWithin("what", RICH, 1, 3, (x, what) -> x.set(0, what, 4));
        s.onlyWithin("run", RICH, 0, 5, (x, run) -> x.set(run, 3, 4));
        s.onlyWithin("CELL", RICH, 0, 35, (x, v) -> x.set(5, 1, v));
        s.onlyWithin("LIKELY", RICH, 1, 99, (x, v) -> x.set(5, 2, v));
        s.onlyWithin("DEEP", RICH, 1, 9, (x, v) -> x.set(5, 3, v));
        s.refused("without RUNS", EMPTY, x -> x.set(0, 1, 1), BAD);
    }

    private void passes() {
        s.promise(7, "COLUMNS of the CELLS in a ROW that a RUN PASSES, as a set. BAD.");
        BehindWall x = Sentences.runs(4, 14, 1, 1);
        int[] due = {0, 0, 60, 32, 32, 32};
        for (int row = 0; row < 6; row++) {
            s.due("ROW " + row, x.passes(0, row), due[row]);
        }
        s.onlyWithin("row", RICH, 0, 5, (y, row) -> y.passes(0, row));
        s.onlyWithin("run", RICH, 0, 5, (y, run) -> y.passes(run, 5));
        s.refused("without RUNS", EMPTY, y -> y.passes(0, 0), BAD);
    }

    private void tells() {
        s.promise(8, "What a RUN TELLS of a sort of TEST at a CELL: 1, 0. BAD.");
        BehindWall x = Sentences.runs(2, 14, 1, 9);
        int[] due = {0, 0, 1, 1};
        for (int sort = 0; sort < 4; sort++) {
            s.due("sort " + sort, x.tells(0, sort, 14), due[sort]);
            s.due("sort " + sort + " elsewhere", x.tells(0, sort, 13), 0);
        }
        s.onlyWithin("run", RICH, 0, 5, (y, run) -> y.tells(run, 0, 0));
        s.onlyWithin("sort", RICH, 0, 3, (y, sort) -> y.tells(0, sort, 0));
        s.onlyWithin("cell", RICH, 0, 35, (y, cell) -> y.tells(0, 0, cell));
        s.refused("without RUNS", EMPTY, y -> y.tells(0, 0, 0), BAD);
    }

    private void deal() {
        s.promise(9, "RUNS are drawn, n (1 .. 10) of them, as many as there is room for (no draws for others): how many came.");
        for (int had = 0; had <= 10; had++) {
            for (int n : new int[] {1, 4, 9, 10}) {
                BehindWall x = new BehindWall();
                for (int i = 0; i < had; i++) {
                    x.run(0, 0, 1, 1);
                }
                int came = Math.min(n, 10 - had);
                int z = 1;
                for (int i = 0; i < 4 * came; i++) {
                    z = Sentences.next(z);
                }
                s.due(n + " behind " + had, x.deal(n), came);
                s.due("RUNS", x.count(0), had + came);
                s.due("draws", x.count(7), z);
            }
        }
    }

    private void dealRefused() {
        s.promise(9, "how many came. BAD.");
        s.onlyWithin("n", RICH, 1, 10, (x, n) -> x.deal(n));
        s.onlyWithin("n without RUNS", BARE, 1, 10, (x, n) -> x.deal(n));
        s.onlyWithin("n without room", FILLED, 1, 10, (x, n) -> x.deal(n));
    }

    private void seed() {
        s.promise(10, "z becomes v: what it was.");
        BehindWall x = new BehindWall();
        int was = 1;
        for (int v : new int[] {0, -1, LOW, HIGH, BAD, NONE, 7}) {
            s.due("what it was", x.seed(v), was);
            s.due("z", x.count(7), v);
            was = v;
        }
    }

    private void rule() {
        s.promise(11, "SLIP, MAINS (what 0, 1) becomes v: what it was. BAD.");
        BehindWall x = new BehindWall();
        s.due("SLIP", x.rule(0, 49), 10);
        s.due("SLIP", x.rule(0, 0), 49);
        s.due("MAINS stays", x.count(3), 1);
        s.due("MAINS", x.rule(1, 0), 1);
        s.due("MAINS", x.rule(1, 1), 0);
        s.due("SLIP stays", x.count(2), 0);
        s.onlyWithin("what", RICH, 0, 1, (y, what) -> y.rule(what, 1));
        s.onlyWithin("SLIP", RICH, 0, 49, (y, v) -> y.rule(0, v));
        s.onlyWithin("MAINS", RICH, 0, 1, (y, v) -> y.rule(1, v));
    }

    private void build() {
        s.promise(12, "A BUILD (anew, if it was BUILT): how many RUNS there are.");
        BehindWall x = Sentences.runs(0, 0, 1, 1, 0, 1, 1, 1);
        for (int truth : new int[] {0, 1, 1, 0}) {
            x.seed(Sentences.seedFor(2, truth));
            s.due("how many", x.build(), 2);
            s.due("TRUE", x.drill(truth, 1), 1);
            s.due("not the other", x.drill(1 - truth, 1), 0);
        }
        x.probe(3, 0);
        x.seed(Sentences.seedFor(2, 1));
        x.build();
        s.due("ODDS stay", x.told(0, 4), 1000);
        s.due("ODDS stay", x.told(1, 4), 0);
        s.due("TESTS stay", x.house(3), 1);
        s.due("of ten", Whole.full().build(), 10);
    }

    private void buildRefused() {
        s.promise(12, "NO: none.");
        s.refused("without RUNS", BARE, x -> x.build(), NO);
        s.refused("without RUNS", EMPTY, x -> x.build(), NO);
        BehindWall x = new BehindWall();
        x.keep();
        x.run(0, 0, 1, 1);
        x.build();
        x.back();
        s.due("they are gone", x.build(), NO);
        s.due("nothing is BUILT then", x.house(7), 0);
    }

    private void probe() {
        s.promise(13, "A TEST of a sort at a CELL: what it tells (1, 0).");
        BehindWall x = Sentences.runs(2, 14, 1, 3);
        x.rule(0, 0);
        x.build();
        for (int sort = 0; sort < 4; sort++) {
            s.due("sort " + sort, x.probe(sort, 14), 1);
            s.due("sort " + sort + " elsewhere", x.probe(sort, 35), 0);
        }
        s.due("TESTS", x.house(3), 8);
        s.due("no STEP", x.count(1), 0);
        s.due("no HOLES, they are for drilling", x.house(2), 0);
    }

    private void probeRefused() {
        s.promise(13, "BAD; NO: nothing is BUILT.");
        s.onlyWithin("sort", RICH, 0, 3, (x, sort) -> x.probe(sort, 0));
        s.onlyWithin("cell", RICH, 0, 35, (x, cell) -> x.probe(0, cell));
        for (int sort = 0; sort < 4; sort++) {
            int asked = sort;
            s.refused("NO", UNBUILT, x -> x.probe(asked, 14), NO);
            s.refused("NO without RUNS", EMPTY, x -> x.probe(asked, 0), NO);
        }
        s.refused("BAD stands ahead of NO", UNBUILT, x -> x.probe(4, 0), BAD);
        s.refused("BAD stands ahead of NO", UNBUILT, x -> x.probe(0, 36), BAD);
        s.refused("BAD stands ahead of NO", EMPTY, x -> x.probe(-1, -1), BAD);
    }

    private void drill() {
        s.promise(14, "DRILLING at a CELL so deep (1 .. 9): by how much COST is more.");
        BehindWall x = Sentences.runs(3, 14, 1, 1);
        x.build();
        s.due("the least depth", x.drill(14, 1), 3);
        x.set(0, 3, 9);
        s.due("not so deep", x.drill(14, 8), 0);
        s.due("the greatest", x.drill(14, 9), 19);
        s.due("COST", x.house(0), 22);
        s.due("elsewhere", x.drill(20, 9), 0);
    }

    private void drillRefused() {
        s.promise(14, "BAD; NO: nothing is BUILT.");
        s.onlyWithin("cell", RICH, 0, 35, (x, cell) -> x.drill(cell, 9));
        s.onlyWithin("depth", RICH, 1, 9, (x, depth) -> x.drill(0, depth));
        s.refused("NO", UNBUILT, x -> x.drill(14, 9), NO);
        s.refused("NO without RUNS", EMPTY, x -> x.drill(14, 9), NO);
        s.refused("BAD stands ahead of NO", UNBUILT, x -> x.drill(14, 10), BAD);
        s.refused("BAD stands ahead of NO", EMPTY, x -> x.drill(36, 9), BAD);
    }

    private void steps() {
        s.promise(15, "n (1 .. 100) STEPS");
        s.onlyWithin("n", RICH, 1, 100, (x, n) -> x.steps(n));
        s.onlyWithin("n without RUNS", BARE, 1, 100, (x, n) -> x.steps(n));
        BehindWall x = Whole.rich();
        int step = x.count(1);
        int tests = x.house(3);
        x.steps(1);
        s.due("one", x.count(1), step + 1);
        x.steps(100);
        s.due("a hundred", x.count(1), step + 101);
        s.due("TESTS", x.house(3), tests + 101);
    }

    private void stepsUpTo9999() {
        s.promise(15, "(no more than up to 9999)");
        BehindWall x = Sentences.runs(0, 0, 1, 1);
        Sentences.stepsUpTo(x, 9900);
        BehindWall y = Sentences.runs(0, 0, 1, 1);
        Sentences.stepsUpTo(y, 9900);
        y.steps(99);
        s.due("99 are left", y.count(1), 9999);
        x.steps(100);
        s.due("no more", x.count(1), 9999);
        s.due("TESTS", x.house(3), 9998);
        s.due("as many draws", x.count(7), y.count(7));
        s.due("none are left", x.steps(1), 0);
        s.due("none are left", x.steps(100), 0);
        s.due("THE STEP", x.count(1), 9999);
        s.due("no draws", x.count(7), y.count(7));
        s.due("no TESTS", x.house(3), 9998);
        s.due("BAD is BAD", x.steps(101), BAD);
        x.probe(3, 0);
        s.due("TESTS by others go on", x.house(3), 9999);
        BehindWall z = new BehindWall();
        Sentences.stepsUpTo(z, 9999);
        z.run(0, 0, 1, 1);
        z.steps(5);
        s.due("no BUILD either", z.house(7), 0);
    }

    private void stepsSlips() {
        s.promise(15, "how many SLIPS there were in them. BAD.");
        BehindWall x = Whole.rich();
        x.rule(0, 49);
        int all = x.house(4);
        for (int i = 0; i < 20; i++) {
            int slips = x.steps(10);
            all += slips;
            s.due("SLIPS", x.house(4), all);
            s.dueTrue("only those of these STEPS", slips >= 0 && slips <= 10);
        }
        s.dueTrue("there were some", all > 40);
        x.rule(0, 0);
        s.due("none without SLIP", x.steps(100), 0);
        s.refused("none of 0 STEPS", RICH, y -> y.steps(0), BAD);
        s.due("SLIPS", x.house(4), all);
    }

    private void house() {
        s.promise(16, "What is 0 COST, 1 HITS, 2 HOLES, 3 TESTS, 4 SLIPS, 5 MINUTES, 6 FORGOT, 7 whether it is BUILT (1, 0)");
        BehindWall x = Sentences.runs(0, 0, 1, 7);
        s.due("not BUILT", x.house(7), 0);
        x.build();
        x.rule(0, 1);
        for (int i = 0; i < 3; i++) {
            x.drill(0, 9);
        }
        x.drill(1, 9);
        for (int i = 0; i < 2; i++) {
            x.seed(Sentences.seedFor(100, 0));
            x.probe(1, 0);
        }
        x.probe(3, 0);
        int[] due = {21, 3, 4, 3, 2, 13, 1, 1};
        for (int what = 0; what < 8; what++) {
            s.due("house " + what, x.house(what), due[what]);
        }
        for (int what : new int[] {-1, 10, LOW, HIGH}) {
            s.refused("house " + what, RICH, y -> y.house(what), BAD);
            s.refused("house " + what, EMPTY, y -> y.house(what), BAD);
        }
    }

    private void houseGreatest() {
        s.promise(16, "8 the RUN with the greatest ODDS (the least of several; NONE)");
        s.refused("NONE", EMPTY, x -> x.house(8), NONE);
        int[][] rows = {{9, 0}, {5, 9, 9, 1}, {9, 9, 0}, {1, 2, 3, 2}, {9, 5, 9, 0}, {99, 98, 97, 0}};
        for (int[] row : rows) {
            BehindWall x = new BehindWall();
            for (int i = 0; i < row.length - 1; i++) {
                x.run(0, i, row[i], 1);
            }
            s.due("the greatest", x.house(8), row[row.length - 1]);
        }
        BehindWall x = Sentences.runs(0, 0, 9, 1, 0, 1, 5, 1);
        x.set(1, 2, 99);
        s.due("by ODDS, not by LIKELY", x.house(8), 0);
        s.due("of ten, as it is with behind", Whole.full().house(8), Whole.full().behind(0, 2));
    }

    private void houseKnown() {
        s.promise(16, "9 whether it is KNOWN (1, 0; nothing BUILT: 0). BAD.");
        BehindWall x = Sentences.runs(0, 0, 90, 1);
        s.due("nothing BUILT", x.house(9), 0);
        x.build();
        s.due("KNOWN", x.house(9), 1);
        x.run(0, 1, 10, 1);
        s.due("just KNOWN", x.house(9), 1);
        x.run(0, 2, 1, 1);
        s.due("no more", x.house(9), 0);
        s.refused("without RUNS", EMPTY, y -> y.house(9), 0);
        s.refused("nothing BUILT", UNBUILT, y -> y.house(9), 0);
        s.refused("10", RICH, y -> y.house(10), BAD);
    }
}

/** The "Terms", part 3: what is likely, what will be, sentence by sentence. */
public final class LikelySentencesTest {
    private static final int NONE = BehindWall.NONE;
    private final Sentences s;

    private LikelySentencesTest(Sentences s) {
        this.s = s;
    }

    public static void main(String[] args) throws Exception {
        LikelySentencesTest t = new LikelySentencesTest(new Sentences());
        t.all();
        t.loss();
        t.risk();
        t.chance();
        t.wished();
        t.where();
        t.safe();
        t.learnShares();
        t.learnIsTheLeast();
        t.learnIsCut();
        t.worthiest();
        t.fits();
        t.known();
        t.onlyThought();
        t.withoutTheBound();
        t.behind();
        t.when();
        t.slipped();
        t.greatNumbers();
        t.s.end("LikelySentencesTest", 1, 0);
    }

    /** RUN 0: COLUMN 0, HURT 2, 3 of 6; RUN 1: ROW 0 from 1 on, HURT 14, 2 of 6; RUN 2: COLUMNS 1 and 4, HURT 1. */
    private static BehindWall three() {
        return Sentences.runs(0, 0, 3, 2, 2, 1, 2, 5, 5, 1, 1, 8);
    }

    private void all() {
        s.term(3, "ALL: ODDS of all RUNS, together.");
        BehindWall x = three();
        s.due("3 of 6", x.chance(0), 500);
        x.set(2, 2, 99);
        s.due("by ODDS, not by LIKELY", x.chance(0), 500);
        x.run(0, 5, 6, 1);
        s.due("3 of 12", x.chance(0), 250);
        BehindWall one = Sentences.runs(0, 0, 1, 1);
        s.due("of one", one.chance(0), 1000);
        theLeast();
    }

    /** By two TESTS that slip, 10 000 become 100, and 1: no ALL is less. */
    private void theLeast() {
        BehindWall x = Sentences.runs(0, 0, 10, 9);
        x.build();
        x.rule(0, 1);
        for (int i = 0; i < 2; i++) {
            x.seed(Sentences.seedFor(100, 0));
            x.probe(1, 0);
        }
        s.due("1 is all there is", x.told(0, 4), 1);
        Sentences.fill(x, 0, 0, 0);
        s.due("CHANCE", x.chance(0), 1000);
        s.due("CHANCE elsewhere", x.chance(1), 0);
        s.due("RISK", x.risk(0, 9), 9000);
        s.due("RISK, less deep", x.risk(0, 8), 0);
        s.due("WHERE", x.where(0, 9, 1), 9000);
        s.due("WHERE, less deep", x.where(0, 8, 1), 0);
        s.due("KNOWN", x.house(9), 1);
        x.mark(0, 0, 1);
        s.due("WHERE, elsewhere", x.where(0, 9, 1), 0);
    }

    private void loss() {
        s.term(3, "LOSS at a CELL for a depth: of all RUNS that PASS it and are no more DEEP, ODDS times HURT, together.");
        BehindWall x = three();
        int[][] due = {{1, 4, 0}, {1, 5, 28}, {1, 7, 28}, {1, 8, 29}, {1, 9, 29}, {0, 1, 0}, {0, 2, 6}, {4, 9, 29},
            {7, 7, 0}, {7, 8, 1}, {5, 9, 28}, {35, 9, 0}};
        for (int[] d : due) {
            s.due("at " + d[0] + " for " + d[1], x.risk(d[0], d[1]), 1000 * d[2] / 6);
        }
    }

    private void risk() {
        s.term(3, "RISK: 1000 times LOSS by ALL (cut).");
        BehindWall x = three();
        s.due("4666 and two thirds", x.risk(2, 9), 4666);
        s.due("4833 and a third", x.risk(1, 9), 4833);
        s.due("just 1000", x.risk(0, 9), 1000);
    }

    private void chance() {
        s.term(3, "CHANCE of a CELL: 1000 times ODDS of all that PASS it, together, by ALL (cut).");
        BehindWall x = three();
        s.due("none", x.chance(35), 0);
        s.due("a third", x.chance(2), 333);
        s.due("a sixth", x.chance(7), 166);
        s.due("a third and a sixth", x.chance(1), 500);
        BehindWall twice = Sentences.runs(0, 0, 99, 9, 5, 3, 99, 9);
        s.due("all PASS it, however DEEP", twice.chance(30), 1000);
    }

    private void wished() {
        s.term(3, "WISHED: CELLS told by places of a SHEET that are numbers 0 .. 35.");
        BehindWall x = three();
        int[] places = {-1, 36, 99, -32768, 32767};
        Sentences.fill(x, 0, 0, places);
        s.due("none of shorts", x.where(0, 9, 0), NONE);
        Sentences.fill(x, 1, 1, -1, 36, NONE, 99999, -99999);
        s.due("none of floats", x.where(1, 9, 0), NONE);
        x.sheet(2, 1, 0);
        s.due("none without places", x.where(2, 9, 0), NONE);
        for (int sort = 0; sort < 2; sort++) {
            x.sheet(3, sort, 0);
            for (int cell : new int[] {0, 35}) {
                Sentences.fill(x, 3, sort, 36, cell, -1);
                s.due("the first and the last CELL", x.where(3, 9, 0), cell);
                s.due("for LEARN, too", x.learn(3, 0, 3, 9), 0);
                s.due("for WORTHIEST, too", x.worthiest(3, 9, 2), 0);
            }
        }
        Sentences.fill(x, 3, 0, 65536 + 7, 1);
        s.due("what became of it in the SHEET", x.where(3, 9, 0), 7);
        x.sheet(3, 0, 24);
        for (int i = 0; i < 23; i++) {
            x.mark(3, i, 1);
        }
        x.mark(3, 23, 35);
        s.due("the last of 24 places", x.where(3, 9, 0), 35);
    }

    private void where() {
        s.term(3, "WHERE: of these the one with the least LOSS; of several the first place.");
        BehindWall x = three();
        Sentences.fill(x, 0, 0, 1, 0, 6, 7, 10);
        s.due("the least", x.where(0, 9, 0), 7);
        s.due("of two that are the least", x.where(0, 7, 0), 7);
        s.due("of all, for none is so DEEP", x.where(0, 1, 0), 1);
        Sentences.fill(x, 0, 0, 10, 7);
        s.due("the first place, not the first CELL", x.where(0, 9, 0), 10);
        Sentences.fill(x, 0, 0, 7, 35);
        s.due("the last place", x.where(0, 9, 0), 35);
        // ODDS 200 and 100 of 713 100: no RISK of 1000 at either, but less LOSS at one
        BehindWall y = Sentences.runs(0, 0, 99, 1);
        y.build();
        for (int i = 0; i < 7; i++) {
            y.run(0, 0, 99, 1);
        }
        y.run(0, 1, 2, 1);
        y.run(0, 2, 1, 1);
        y.seed(Sentences.seedFor(100, 99));
        y.probe(1, 0);
        s.due("ODDS", y.told(8, 4), 200);
        s.due("ODDS", y.told(9, 4), 100);
        Sentences.fill(y, 0, 0, 1, 2);
        s.due("no RISK", y.risk(1, 9), 0);
        s.due("by LOSS, not by RISK", y.where(0, 9, 0), 2);
    }

    private void safe() {
        s.term(3, "SAFE of a CELL: the greatest depth 0 .. 9 with a RISK of no more than a told one.");
        BehindWall x = three();
        int[][] due = {{1, 0, 4}, {1, 4665, 4}, {1, 4666, 7}, {1, 4832, 7}, {1, 4833, 9}, {35, 0, 9}, {0, 999, 1},
            {0, 1000, 9}};
        for (int[] d : due) {
            s.due("at " + d[0] + " with " + d[1], x.safe(d[0], d[1]), d[2]);
        }
        BehindWall y = Sentences.runs(0, 0, 1, 1);
        s.due("not at all", y.safe(0, 999), 0);
        s.due("all through", y.safe(0, 1000), 9);
        y.set(0, 3, 9);
        s.due("just ahead of it", y.safe(0, 8999), 8);
        s.due("all through", y.safe(0, 9000), 9);
    }

    /** LEARN at a CELL, SLIP being so, of two RUNS up from 0 and 1, WISHED being 0 and 1. */
    private void learned(int deep0, int deep1, int sort, int cell, int slip, int due) {
        BehindWall x = Sentences.runs(0, 0, 1, deep0, 0, 1, 1, deep1);
        Sentences.fill(x, 0, 0, 0, 1);
        x.rule(0, slip);
        s.due("DEEP " + deep0 + " " + deep1 + " sort " + sort + " at " + cell + " SLIP " + slip,
            x.learn(sort, cell, 0, 9), due);
    }

    private void learnShares() {
        s.term(3, "(100 less SLIP, SLIP; of a HOLE 100, 0)");
        // a HOLE tells which: nothing is lost then
        learned(4, 6, 3, 0, 10, 2000);
        learned(4, 6, 3, 1, 49, 2000);
        // a BEEP at 0: yes: 4 * 90, 6 * 10; no: 4 * 10, 6 * 90
        learned(4, 6, 1, 0, 10, 1500);
        learned(4, 6, 1, 1, 10, 1500);
        learned(4, 6, 1, 0, 0, 2000);
        // yes: 4 * 51, 6 * 49; no: 4 * 49, 6 * 51: where to drill stays the same
        learned(4, 6, 1, 0, 49, 0);
        // yes: 5 * 51, 5 * 49; no: 5 * 49, 5 * 51
        learned(5, 5, 1, 0, 49, 50);
        // no one TELLS yes
        learned(4, 6, 0, 0, 0, 0);
        learned(4, 6, 2, 0, 0, 0);
        learned(4, 6, 3, 2, 0, 0);
    }

    private void learnIsTheLeast() {
        s.term(3, "the least over WISHED of LOSS");
        BehindWall x = Sentences.runs(0, 0, 1, 4, 0, 1, 1, 6);
        Sentences.fill(x, 0, 0, 0);
        s.due("of one CELL", x.learn(3, 0, 0, 9), 0);
        Sentences.fill(x, 0, 0, 1, 0);
        s.due("of two", x.learn(3, 0, 0, 9), 2000);
        s.due("of two, just so deep", x.learn(3, 0, 0, 6), 2000);
        s.due("less deep than one", x.learn(3, 0, 0, 5), 0);
        s.due("less deep than both", x.learn(3, 0, 0, 3), 0);
        Sentences.fill(x, 0, 0, 1, 35, 0);
        s.due("where nothing is lost anyway", x.learn(3, 0, 0, 9), 0);
        Sentences.fill(x, 1, 1, NONE, 1, 40, 0, -1);
        s.due("of floats", x.learn(3, 0, 1, 9), 2000);
    }

    private void learnIsCut() {
        s.term(3, "LEARN is 1000 times (100 times the least LOSS over WISHED, less S) by 100 times ALL (cut).");
        // LOSS 4000 and 6000, ALL 3000
        BehindWall x = Sentences.runs(0, 0, 1, 4, 0, 1, 2, 3);
        Sentences.fill(x, 0, 0, 0, 1);
        s.due("1333 and a third", x.learn(3, 0, 0, 9), 1333);
        // yes: 4 * 90, 6 * 10; no: 4 * 10, 6 * 90: S is 100, of 400
        s.due("just 1000", x.learn(1, 0, 0, 9), 1000);
        x.rule(0, 11);
        // S is 66 + 44: 290 of 400
        s.due("966 and two thirds", x.learn(1, 0, 0, 9), 966);
    }

    private void worthiest() {
        s.term(3, "WORTHIEST: the sort and CELL with the greatest LEARN; of several the first sort, then the first CELL.");
        BehindWall x = Sentences.runs(0, 3, 1, 4, 0, 1, 1, 6);
        Sentences.fill(x, 0, 0, 3, 1);
        worthiestIs(x, 3, 1, 2000);
        x.rule(0, 0);
        worthiestIs(x, 1, 1, 2000);
        x.turns(0, 2);
        x.set(0, 3, 3);
        // a PIPE that is DEEP 3 hurts by 12: the other one, by 6, would be drilled into
        worthiestIs(x, 0, 3, 3000);
        Sentences.fill(x, 0, 0, 3);
        worthiestIs(x, 0, 0, 0);
        int some = 0;
        for (int seed = 0; seed < 30; seed++) {
            BehindWall y = new BehindWall();
            y.seed(seed);
            y.deal(7);
            Sentences.fill(y, 0, 0, y.told(0, 1), y.told(1, 1), y.told(2, 1));
            int[] best = {0, 0, -1};
            for (int k = 0; k < 144; k++) {
                int learn = y.learn(k / 36, k % 36, 0, 9);
                if (learn > best[2]) {
                    best = new int[] {k / 36, k % 36, learn};
                }
            }
            some += best[2] > 0 ? 1 : 0;
            worthiestIs(y, best[0], best[1], best[2]);
        }
        s.dueTrue("something was worth it", some > 5);
    }

    private void worthiestIs(BehindWall x, int sort, int cell, int learn) {
        s.due("the sort", x.worthiest(0, 9, 0), sort);
        s.due("the CELL", x.worthiest(0, 9, 1), cell);
        s.due("LEARN", x.worthiest(0, 9, 2), learn);
    }

    private void fits() {
        s.term(3, "FITS by a SHEET: the RUN that PASSES most of its places (each that is a number, however often; "
            + "others it does not); of several the least.");
        fitsIs(1, 3, 0, 1, 7, 7, 2, 3, 50, -4);
        fitsIs(2, 4, 0, 1, 7, 7, 7, 3, 50, -4);
        fitsIs(0, 2, 0, 0, 1, 6, 2);
        fitsIs(1, 3, 0, 0, 1, 6, 2, 3);
        fitsIs(0, 0, 1, NONE, 36, -1);
        fitsIs(2, 1, 1, NONE, 7, NONE);
        fitsIs(0, 0, 0);
        // no CELLS, but by their lowest bits they would be
        fitsIs(0, 0, 0, 64, 70, 128, -64, -58, -62);
        fitsIs(0, 0, 1, 64, 70, 65, -64, -58, NONE);
        int[] same = new int[24];
        java.util.Arrays.fill(same, 28);
        fitsIs(2, 24, 0, same);
        BehindWall ten = new BehindWall();
        for (int i = 0; i < 10; i++) {
            ten.run(i == 9 ? 2 : 0, i, 1, 1);
        }
        Sentences.fill(ten, 0, 0, 10, 11);
        s.due("the last of ten", ten.fits(0, 0), 9);
        Sentences.fill(ten, 0, 0, 0, 6, 12);
        s.due("the first of ten", ten.fits(0, 0), 0);
    }

    private void fitsIs(int run, int many, int sort, int... places) {
        BehindWall x = three();
        Sentences.fill(x, 0, sort, places);
        s.due("the RUN", x.fits(0, 0), run);
        s.due("how many", x.fits(0, 1), many);
    }

    private void known() {
        s.term(3, "KNOWN: 900 times ALL is no more than 1000 times ODDS of TRUE.");
        int[][] due = {{90, 10, 1}, {89, 10, 0}, {99, 11, 1}, {99, 12, 0}, {9, 1, 1}, {8, 1, 0}, {1, 99, 0}};
        for (int[] d : due) {
            BehindWall x = Sentences.runs(0, 0, d[0], 1);
            s.due("not BUILT", x.house(9), 0);
            x.build();
            s.due("alone", x.house(9), 1);
            x.run(0, 1, d[1], 1);
            s.due(d[0] + " and " + d[1], x.house(9), d[2]);
        }
        BehindWall x = Sentences.runs(0, 0, 1, 1);
        x.build();
        x.run(0, 1, 99, 1);
        s.due("another one is likely", x.house(9), 0);
        // 89 100 of 99 010, then 88 209 of 98 010: just too little, then just enough
        BehindWall y = Sentences.runs(0, 0, 90, 1);
        y.build();
        y.run(0, 0, 10, 1);
        y.run(0, 1, 1, 1);
        y.rule(0, 1);
        for (int known = 0; known < 2; known++) {
            y.seed(Sentences.seedFor(100, 99));
            y.probe(1, 0);
            s.due("by a little", y.house(9), known);
        }
    }

    private void onlyThought() {
        s.term(3, "(All that follows is only thought, z as it is, without the bound of THE STEP: nothing changes.)");
        Sentences.Asked[] asked = {x -> x.behind(100, 0), x -> x.behind(7, 5), x -> x.when(), x -> x.slipped(30, 0),
            x -> x.slipped(1, 1)};
        for (Sentences.Asked a : asked) {
            BehindWall x = Whole.rich();
            int first = a.of(x);
            s.due("the same again", a.of(x), first);
            s.same("nothing changes", x, Whole.rich());
            BehindWall y = Whole.unbuilt();
            a.of(y);
            s.same("nothing changes, not BUILT", y, Whole.unbuilt());
        }
        BehindWall x = Whole.rich();
        int minutes = x.behind(20, 0);
        x.steps(20);
        s.due("z as it is", x.house(5), minutes);
    }

    private void withoutTheBound() {
        s.term(3, "without the bound of THE STEP");
        for (int step : new int[] {9990, 9999}) {
            BehindWall x = new BehindWall();
            Sentences.stepsUpTo(x, step);
            x.seed(983);
            x.deal(3);
            BehindWall y = new BehindWall();
            y.seed(983);
            y.deal(3);
            s.due("when", x.when(), y.when());
            x.build();
            y.build();
            s.due("slipped", x.slipped(30, 0), y.slipped(30, 0));
            s.due("slipped", x.slipped(30, 1), y.slipped(30, 1));
            for (int what = 0; what < 6; what++) {
                s.due("behind", x.behind(100, what), y.behind(100, what));
            }
            y.steps(100);
            s.due("as by STEPS", x.behind(100, 0), y.house(5));
        }
    }

    private void behind() {
        s.term(3, "BEHIND n STEPS: MINUTES; SLIPS; the RUN with the greatest ODDS (the least of several); ODDS of a RUN.");
        for (int n : new int[] {0, 1, 2, 50, 99, 100}) {
            for (int built = 0; built < 2; built++) {
                BehindWall x = built == 1 ? Whole.rich() : Whole.unbuilt();
                BehindWall y = built == 1 ? Whole.rich() : Whole.unbuilt();
                if (n > 0) {
                    y.steps(n);
                }
                s.due("MINUTES behind " + n, x.behind(n, 0), y.house(5));
                s.due("SLIPS behind " + n, x.behind(n, 1), y.house(4));
                s.due("the greatest behind " + n, x.behind(n, 2), y.house(8));
                for (int run = 0; run < 6; run++) {
                    s.due("ODDS behind " + n, x.behind(n, 3 + run), y.told(run, 4));
                }
            }
        }
        BehindWall ten = Whole.full();
        BehindWall stepped = Whole.full();
        for (int n = 1; n < 40; n++) {
            stepped.steps(1);
            for (int run = 0; run < 10; run++) {
                s.due("ODDS of RUN " + run + " of ten behind " + n, ten.behind(n, 3 + run), stepped.told(run, 4));
            }
        }
        BehindWall x = Sentences.runs(0, 0, 5, 1, 0, 1, 9, 1, 0, 2, 9, 1);
        s.due("the least of several", x.behind(0, 2), 1);
        BehindWall alike = Sentences.runs(0, 0, 9, 1, 0, 0, 9, 1);
        s.due("the least of several", alike.behind(60, 2), 0);
        BehindWall without = new BehindWall();
        s.due("MINUTES without RUNS", without.behind(100, 0), 0);
        s.due("SLIPS without RUNS", without.behind(100, 1), 0);
    }

    /** By STEPS one behind the other: behind how many it is KNOWN first, -1 if not behind 110. */
    private static int knownBehind(BehindWall x) {
        for (int n = 0; n <= 110; n++) {
            if (x.house(9) == 1) {
                return n;
            }
            x.steps(1);
        }
        return -1;
    }

    private static BehindWall dealt(int seed, int runs) {
        BehindWall x = new BehindWall();
        x.seed(seed);
        x.deal(runs);
        return x;
    }

    private void when() {
        s.term(3, "WHEN: behind how many STEPS (0 .. 100) it is KNOWN first (BUILT, too).");
        s.due("behind 100, by STEPS", knownBehind(dealt(983, 3)), 100);
        s.due("behind 100", dealt(983, 3).when(), 100);
        s.due("behind 101, by STEPS", knownBehind(dealt(625, 5)), 101);
        s.due("not behind 101", dealt(625, 5).when(), NONE);
        BehindWall x = dealt(625, 5);
        x.steps(1);
        s.due("a STEP on", x.when(), 100);
        BehindWall one = Sentences.runs(0, 0, 1, 1);
        s.due("BUILT, too", one.when(), 1);
        one.build();
        s.due("now", one.when(), 0);
        // KNOWN now, though a STEP may make it otherwise
        BehindWall y = dealt(983, 3);
        y.steps(100);
        s.due("first", y.when(), 0);
        BehindWall alike = Sentences.runs(0, 0, 9, 1, 0, 0, 9, 1);
        s.due("never", alike.when(), NONE);
        s.due("never without RUNS", new BehindWall().when(), NONE);
    }

    private void slipped() {
        s.term(3, "SLIPPED for n: the SLIP 0 .. 49 with which ODDS of TRUE by ALL (1000 times, cut) "
            + "are greatest behind n STEPS; of several the least.");
        // n, seed, how many RUNS, the best SLIP, the last one that is as good; in the last two rows some SLIPS above 49
        // would be better, if they were any
        int[][] rows = {{5, 347, 2, 49, 49}, {2, 288, 2, 25, 37}, {30, 219, 2, 7, 42}, {2, 277, 6, 12, 49},
            {1, 3, 1, 0, 49}, {3, 147, 2, 0, 49}, {5, 114, 2, 0, 48}};
        for (int[] r : rows) {
            // RUN 0 was the only one when it was BUILT: it is TRUE
            BehindWall x = dealt(r[1], 1);
            x.build();
            x.deal(r[2] - 1);
            int got = x.slipped(r[0], 0);
            int share = x.slipped(r[0], 1);
            x.keep();
            int first = -1;
            int last = -1;
            int most = -1;
            for (int slip = 0; slip < 50; slip++) {
                x.back();
                x.rule(0, slip);
                x.steps(r[0]);
                long all = 0;
                for (int run = 0; run < r[2]; run++) {
                    all += x.told(run, 4);
                }
                int now = (int) (1000L * x.told(0, 4) / all);
                first = now > most ? slip : first;
                last = now >= most ? slip : last;
                most = Math.max(most, now);
            }
            s.due("by STEPS", first, r[3]);
            s.due("the last that is as good", last, r[4]);
            s.due("the SLIP", got, first);
            s.due("of 1000", share, most);
        }
    }

    private void greatNumbers() {
        s.term(3, "All numbers are as great as they have to be.");
        BehindWall x = new BehindWall();
        for (int i = 0; i < 10; i++) {
            x.run(3, i < 5 ? 30 : 31, 99, 1);
        }
        Dues.text(x, "hurt 99");
        Sentences.fill(x, 0, 0, 30, 31);
        // half of 990 000, each hurting by 199
        s.due("RISK", x.risk(30, 9), 99500);
        s.due("WHERE", x.where(0, 9, 1), 99500);
        s.due("SAFE", x.safe(30, 99499), 0);
        s.due("SAFE", x.safe(30, 99500), 9);
        s.due("LEARN", x.learn(3, 30, 0, 9), 99500);
        s.due("LEARN", x.learn(1, 30, 0, 9), 79600);
        s.due("WORTHIEST", x.worthiest(0, 9, 2), 99500);
        s.due("CHANCE", x.chance(30), 500);
        BehindWall y = new BehindWall();
        for (int i = 0; i < 10; i++) {
            y.run(3, 0, 99, 1);
        }
        Dues.text(y, "hurt 99");
        s.due("RISK of all", y.risk(35, 1), 199000);
        s.due("SAFE, more than can be told", y.safe(35, 99999), 0);
    }
}

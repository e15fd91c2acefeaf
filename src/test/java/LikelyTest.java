/** Promises 17 to 28: what is likely, what will be. */
public final class LikelyTest {
    private static final int BAD = BehindWall.BAD, NO = BehindWall.NO, NONE = BehindWall.NONE,
        NOTHING = BehindWall.NOTHING;
    private static final int LOW = Integer.MIN_VALUE, HIGH = Integer.MAX_VALUE;
    private final Dues d = new Dues();

    public static void main(String[] args) {
        LikelyTest t = new LikelyTest();
        t.chance();
        t.risk();
        t.where();
        t.safe();
        t.learn();
        t.worthiest();
        t.fits();
        t.behind();
        t.when();
        t.slipped();
        t.fee();
        t.fine();
        t.d.end("LikelyTest");
    }

    private static void sheet(BehindWall x, int sheet, int sort, int... places) {
        x.sheet(sheet, sort, places.length);
        for (int i = 0; i < places.length; i++) {
            x.mark(sheet, i, places[i]);
        }
    }

    /** RUN 0: COLUMN 0, HURT 2, odds 3 of 6; RUN 1: ROW 0 from 1 on, HURT 9 + 5, 2 of 6; RUN 2: COLUMNS 1, 4, HURT 1. */
    private static BehindWall three() {
        BehindWall x = new BehindWall();
        x.run(0, 0, 3, 2);
        x.run(2, 1, 2, 5);
        x.run(5, 1, 1, 8);
        return x;
    }

    private void chance() {
        BehindWall x = three();
        d.due("17 chance", x.chance(0), 500);
        d.due("17 chance", x.chance(1), 500);
        d.due("17 chance", x.chance(2), 333);
        d.due("17 chance", x.chance(7), 166);
        d.due("17 chance", x.chance(35), 0);
        BehindWall one = new BehindWall();
        one.run(0, 0, 1, 1);
        d.due("17 surely", one.chance(0), 1000);
        d.due("17 bad", x.chance(-1), BAD);
        d.due("17 bad", x.chance(36), BAD);
        d.due("17 none", new BehindWall().chance(0), NONE);
        d.due("17 bad ahead of none", new BehindWall().chance(HIGH), BAD);
    }

    private void risk() {
        BehindWall x = three();
        d.due("18 risk", x.risk(1, 9), 1000 * (2 * 14 + 1) / 6);
        d.due("18 risk", x.risk(1, 8), 1000 * (2 * 14 + 1) / 6);
        d.due("18 risk", x.risk(1, 7), 1000 * 28 / 6);
        d.due("18 risk", x.risk(1, 5), 1000 * 28 / 6);
        d.due("18 risk", x.risk(1, 4), 0);
        d.due("18 risk", x.risk(0, 2), 1000);
        d.due("18 risk", x.risk(0, 1), 0);
        for (int[] b : new int[][] {{-1, 1}, {36, 1}, {0, 0}, {0, 10}, {LOW, HIGH}}) {
            d.due("18 bad", x.risk(b[0], b[1]), BAD);
            d.due("18 bad ahead of none", new BehindWall().risk(b[0], b[1]), BAD);
        }
        d.due("18 none", new BehindWall().risk(0, 1), NONE);
        BehindWall y = new BehindWall();
        for (int i = 0; i < 10; i++) {
            y.run(3, 0, 99, 1);
        }
        Dues.text(y, "hurt 9999");
        d.due("18 numbers as great as they have to be", y.risk(0, 9), 199000);
    }

    private void where() {
        BehindWall x = three();
        d.due("19 nothing", x.where(0, 9, 0), NOTHING);
        sheet(x, 0, 0, 1, 0, 6, 7, 99, -1);
        d.due("19 where", x.where(0, 9, 0), 7);
        d.due("19 its risk", x.where(0, 9, 1), 166);
        d.due("19 where, less deep", x.where(0, 4, 0), 1);
        d.due("19 its risk", x.where(0, 4, 1), 0);
        d.due("19 the first place", x.where(0, 1, 0), 1);
        sheet(x, 1, 1, NONE, 6, 0, 1);
        d.due("19 of floats", x.where(1, 9, 0), 6);
        sheet(x, 2, 0, 1, 0, 6, 35);
        d.due("19 the last place", x.where(2, 9, 0), 35);
        sheet(x, 2, 0, 35, 34, 33, 32);
        d.due("19 the first place, whatever was asked before", x.where(2, 9, 0), 35);
        BehindWall one = new BehindWall();
        one.run(0, 0, 1, 3);
        one.sheet(0, 0, 1);
        d.due("19 surely", one.where(0, 9, 1), 3000);
        sheet(x, 2, 1, NONE, 36, -1);
        d.due("19 nothing wished", x.where(2, 9, 0), NONE);
        x.sheet(2, 0, 0);
        d.due("19 no places", x.where(2, 9, 0), NONE);
        int[][] bad = {{-1, 1, 0}, {4, 1, 0}, {0, 0, 0}, {0, 10, 0}, {0, 1, -1}, {0, 1, 2}, {3, 10, 0}, {3, 1, 2}};
        for (int[] b : bad) {
            d.due("19 bad", x.where(b[0], b[1], b[2]), BAD);
        }
        BehindWall y = new BehindWall();
        d.due("19 nothing ahead of none", y.where(0, 1, 0), NOTHING);
        y.sheet(0, 0, 1);
        d.due("19 no runs", y.where(0, 1, 0), NONE);
    }

    private void safe() {
        BehindWall x = three();
        d.due("20 safe", x.safe(1, 0), 4);
        d.due("20 safe", x.safe(1, 4665), 4);
        d.due("20 safe", x.safe(1, 4666), 7);
        d.due("20 safe", x.safe(1, 4832), 7);
        d.due("20 safe", x.safe(1, 4833), 9);
        d.due("20 safe", x.safe(35, 0), 9);
        for (int[] b : new int[][] {{-1, 0}, {36, 0}, {0, -1}, {0, 100000}, {LOW, HIGH}}) {
            d.due("20 bad", x.safe(b[0], b[1]), BAD);
            d.due("20 bad ahead of none", new BehindWall().safe(b[0], b[1]), BAD);
        }
        d.due("20 none", new BehindWall().safe(0, 99999), NONE);
        BehindWall y = new BehindWall();
        y.run(0, 0, 1, 1);
        d.due("20 not at all", y.safe(0, 999), 0);
        d.due("20 at all", y.safe(0, 1000), 9);
        y.set(0, 3, 2);
        d.due("20 just one deep", y.safe(0, 0), 1);
    }

    private void learn() {
        BehindWall x = new BehindWall();
        x.run(0, 0, 1, 4);
        x.run(0, 1, 1, 6);
        sheet(x, 0, 0, 0, 1);
        // LOSS at 0 is 4, at 1 it is 6 (of 2); a hole at 0 tells which it is: the least is 0 both times
        d.due("21 hole", x.learn(3, 0, 0, 9), 2000);
        d.due("21 hole elsewhere", x.learn(3, 2, 0, 9), 0);
        // a beep at 0, slip 10: yes: 0 has 4 * 90, 1 has 6 * 10; no: 4 * 10, 6 * 90; S is 60 + 40
        d.due("21 beep", x.learn(1, 0, 0, 9), 1000 * (400 - 100) / 200);
        d.due("21 beep", x.learn(1, 1, 0, 9), 1000 * (400 - 100) / 200);
        d.due("21 knock", x.learn(0, 0, 0, 9), 0);
        x.rule(0, 49);
        // yes: 4 * 51, 6 * 49; no: 4 * 49, 6 * 51; the same CELL is best both times
        d.due("21 beep that errs", x.learn(1, 0, 0, 9), 0);
        d.due("21 no more to lose", x.learn(3, 0, 0, 5), 0);
        sheet(x, 1, 0, 40);
        d.due("21 nothing wished", x.learn(3, 0, 1, 9), NONE);
        d.due("21 nothing", x.learn(3, 0, 2, 9), NOTHING);
        int[][] bad = {{-1, 0, 0, 1}, {4, 0, 0, 1}, {0, -1, 0, 1}, {0, 36, 0, 1}, {0, 0, -1, 1}, {0, 0, 4, 1},
            {0, 0, 0, 0}, {0, 0, 0, 10}, {4, 0, 2, 1}};
        for (int[] b : bad) {
            d.due("21 bad", x.learn(b[0], b[1], b[2], b[3]), BAD);
        }
        BehindWall y = new BehindWall();
        y.sheet(0, 0, 1);
        d.due("21 no runs", y.learn(0, 0, 0, 1), NONE);
        d.due("21 no runs, nothing", y.learn(0, 0, 1, 1), NOTHING);
    }

    private void worthiest() {
        BehindWall x = new BehindWall();
        x.run(0, 3, 1, 4);
        x.run(0, 1, 1, 6);
        sheet(x, 0, 0, 3, 1);
        d.due("22 a hole", x.worthiest(0, 9, 0), 3);
        d.due("22 the first cell", x.worthiest(0, 9, 1), 1);
        d.due("22 learn", x.worthiest(0, 9, 2), 2000);
        x.rule(0, 0);
        d.due("22 the first sort", x.worthiest(0, 9, 0), 1);
        d.due("22 the first cell", x.worthiest(0, 9, 1), 1);
        x.turns(0, 2);
        x.set(0, 3, 3);
        d.due("22 a knock", x.worthiest(0, 9, 0), 0);
        d.due("22 its cell", x.worthiest(0, 9, 1), 3);
        d.due("22 nothing to learn", x.worthiest(0, 1, 0), 0);
        d.due("22 nothing to learn", x.worthiest(0, 1, 1), 0);
        d.due("22 nothing to learn", x.worthiest(0, 1, 2), 0);
        sheet(x, 1, 1, NONE);
        d.due("22 nothing wished", x.worthiest(1, 9, 0), NONE);
        d.due("22 nothing", x.worthiest(2, 9, 0), NOTHING);
        for (int[] b : new int[][] {{-1, 1, 0}, {4, 1, 0}, {0, 0, 0}, {0, 10, 0}, {0, 1, -1}, {0, 1, 3}, {2, 1, 3}}) {
            d.due("22 bad", x.worthiest(b[0], b[1], b[2]), BAD);
        }
        BehindWall y = new BehindWall();
        y.sheet(0, 0, 1);
        d.due("22 no runs", y.worthiest(0, 1, 0), NONE);
    }

    private void fits() {
        BehindWall x = three();
        sheet(x, 0, 0, 1, 7, 7, 2, 3, 50, -4);
        d.due("23 places however often", x.fits(0, 0), 1);
        d.due("23 many", x.fits(0, 1), 3);
        x.mark(0, 3, 7);
        d.due("23 fits", x.fits(0, 0), 2);
        d.due("23 many", x.fits(0, 1), 4);
        sheet(x, 1, 1, NONE, 36);
        d.due("23 none of them", x.fits(1, 0), 0);
        d.due("23 many", x.fits(1, 1), 0);
        x.sheet(1, 0, 0);
        d.due("23 no places", x.fits(1, 0), 0);
        d.due("23 nothing", x.fits(2, 0), NOTHING);
        for (int[] b : new int[][] {{-1, 0}, {4, 0}, {0, -1}, {0, 2}, {2, 2}, {LOW, HIGH}}) {
            d.due("23 bad", x.fits(b[0], b[1]), BAD);
        }
        BehindWall y = new BehindWall();
        d.due("23 nothing ahead of none", y.fits(0, 0), NOTHING);
        y.sheet(0, 0, 1);
        d.due("23 no runs", y.fits(0, 0), NONE);
    }

    private void behind() {
        BehindWall x = new BehindWall();
        d.due("24 none", x.behind(3, 2), NONE);
        d.due("24 no run 0", x.behind(3, 3), BAD);
        d.due("24 minutes", x.behind(100, 0), 0);
        x.seed(77);
        x.deal(6);
        BehindWall y = new BehindWall();
        y.seed(77);
        y.deal(6);
        for (int n = 0; n <= 60; n++) {
            d.due("24 minutes", x.behind(n, 0), y.house(5));
            d.due("24 slips", x.behind(n, 1), y.house(4));
            d.due("24 greatest", x.behind(n, 2), y.house(8));
            d.due("24 odds", x.behind(n, 3 + n % 6), y.told(n % 6, 4));
            y.steps(1);
        }
        d.due("24 nothing changes", x.house(7), 0);
        d.due("24 nothing changes", x.count(1), 0);
        for (int[] b : new int[][] {{-1, 0}, {101, 0}, {0, -1}, {0, 9}, {0, HIGH}, {0, LOW}, {LOW, 2}}) {
            d.due("24 bad", x.behind(b[0], b[1]), BAD);
        }
        d.due("24 bad ahead of none", new BehindWall().behind(101, 2), BAD);
    }

    private void when() {
        d.due("25 none", new BehindWall().when(), NONE);
        BehindWall x = new BehindWall();
        x.run(0, 0, 1, 1);
        d.due("25 built first", x.when(), 1);
        x.build();
        d.due("25 known now", x.when(), 0);
        BehindWall same = new BehindWall();
        same.run(0, 0, 1, 1);
        same.run(0, 0, 1, 1);
        d.due("25 never", same.when(), NONE);
        for (int seed = 0; seed < 25; seed++) {
            whenBySteps(seed, 4);
        }
        d.due("25 by the last step", whenBySteps(4, 10), 100);
    }

    private int whenBySteps(int seed, int runs) {
        BehindWall x = new BehindWall();
        x.seed(seed);
        x.deal(runs);
        int z = x.count(7);
        int got = x.when();
        d.due("25 nothing changes", x.count(7), z);
        int n = 0;
        while (n <= 100 && x.house(9) == 0) {
            x.steps(1);
            n++;
        }
        d.due("25 when, seed " + seed, got, n > 100 ? NONE : n);
        return got;
    }

    private void slipped() {
        BehindWall x = new BehindWall();
        d.due("26 nothing built", x.slipped(1, 0), NO);
        for (int[] b : new int[][] {{0, 0}, {31, 0}, {1, -1}, {1, 2}, {LOW, HIGH}}) {
            d.due("26 bad ahead of no", x.slipped(b[0], b[1]), BAD);
        }
        for (int n = 1; n <= 30; n += 7) {
            slippedBySteps(1, 5, n);
        }
        BehindWall one = new BehindWall();
        one.run(0, 0, 1, 1);
        one.build();
        d.due("26 the least of several", one.slipped(5, 0), 0);
        d.due("26 surely", one.slipped(5, 1), 1000);
        // the best SLIP is 49 and 25 with these
        slippedBySteps(88, 5, 20);
        slippedBySteps(85, 2, 20);
        slippedBySteps(326, 4, 20);
    }

    private void slippedBySteps(int seed, int runs, int n) {
        BehindWall x = new BehindWall();
        x.seed(seed);
        x.deal(runs);
        x.build();
        x.keep();
        int best = -1;
        int most = -1;
        for (int slip = 0; slip < 50; slip++) {
            x.back();
            x.rule(0, slip);
            x.steps(n);
            long all = 0;
            for (int r = 0; r < runs; r++) {
                all += x.told(r, 4);
            }
            int share = (int) (1000L * x.told(trueRun(x), 4) / all);
            if (share > most) {
                best = slip;
                most = share;
            }
        }
        x.back();
        int z = x.count(7);
        d.due("26 slip", x.slipped(n, 0), best);
        d.due("26 share", x.slipped(n, 1), most);
        d.due("26 nothing changes", x.count(2), 10);
        d.due("26 nothing changes", x.count(7), z);
    }

    /** Which RUN is TRUE: it is hit at its CELL when it alone is DEEP 1 (DEEP changes, an image is gone back to later). */
    private static int trueRun(BehindWall x) {
        for (int r = 0; r < x.count(0); r++) {
            for (int other = 0; other < x.count(0); other++) {
                x.set(other, 3, other == r ? 1 : 2);
            }
            int hits = x.house(1);
            x.drill(x.told(r, 1), 1);
            if (x.house(1) > hits) {
                return r;
            }
        }
        return 0;
    }

    private void fee() {
        BehindWall x = new BehindWall();
        x.run(0, 0, 1, 7);
        x.build();
        x.drill(0, 9);
        x.probe(3, 0);
        x.probe(3, 0);
        d.due("27 cost without a text", x.fee(), 7);
        Dues.text(x, "fee c*100+t");
        d.due("27 fee", x.fee(), 702);
        Dues.text(x, "fee 0-c");
        d.due("27 not held", x.fee(), -7);
        Dues.text(x, "hurt 50");
        d.due("27 of its own key", x.fee(), -7);
    }

    private void fine() {
        BehindWall x = three();
        d.due("28 odds without a text", x.fine(1), 2000);
        Dues.text(x, "fine o/1000*10+d");
        d.due("28 fine", x.fine(0), 32);
        d.due("28 fine", x.fine(1), 25);
        d.due("28 fine", x.fine(2), 18);
        for (int b : new int[] {-1, 3, LOW, HIGH}) {
            d.due("28 bad", x.fine(b), BAD);
        }
    }
}

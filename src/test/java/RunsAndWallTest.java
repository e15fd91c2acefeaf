/** Promises 1 to 16: a new object, runs, the wall. */
public final class RunsAndWallTest {
    private static final int BAD = BehindWall.BAD, NO = BehindWall.NO, FULL = BehindWall.FULL, NONE = BehindWall.NONE,
        NOTHING = BehindWall.NOTHING, KIND = BehindWall.KIND;
    private static final int LOW = Integer.MIN_VALUE, HIGH = Integer.MAX_VALUE;
    private final Dues d = new Dues();

    public static void main(String[] args) {
        RunsAndWallTest t = new RunsAndWallTest();
        t.newObject();
        t.run();
        t.told();
        t.as();
        t.turns();
        t.set();
        t.passes();
        t.tells();
        t.deal();
        t.seed();
        t.rule();
        t.build();
        t.probe();
        t.probeForgets();
        t.drill();
        t.steps();
        t.stepsHaveABound();
        t.house();
        t.d.end("RunsAndWallTest");
    }

    private static int next(int z) {
        return z * 1103515245 + 12345;
    }

    /** One RUN of each KIND, by numbers, all with the same CELL, LIKELY 10. */
    private static BehindWall kinds(int cell, int deep) {
        BehindWall x = new BehindWall();
        for (int k = 0; k < 6; k++) {
            x.run(k, cell, 10, deep);
        }
        return x;
    }

    private void newObject() {
        BehindWall x = new BehindWall();
        int[] counts = {0, 0, 10, 1, 0, 0, 0, 1};
        for (int i = 0; i < 8; i++) {
            d.due("1 count " + i, x.count(i), counts[i]);
        }
        int[] house = {0, 0, 0, 0, 0, 0, 0, 0, NONE, 0};
        for (int i = 0; i < 10; i++) {
            d.due("1 house " + i, x.house(i), house[i]);
        }
        for (int i = 0; i < 4; i++) {
            d.due("1 sheet " + i, x.reads(i), NOTHING);
        }
        for (int i = 0; i < 5; i++) {
            d.due("1 slot " + i, x.rest(i, 1), NOTHING);
        }
        for (int i = 0; i < 3; i++) {
            d.due("1 key " + i, x.why(i), NONE);
        }
        d.due("1 no image", x.back(), NO);
        d.due("1 fee", x.fee(), 0);
    }

    private void run() {
        BehindWall x = new BehindWall();
        int[][] bad = {{-1, 0, 1, 1}, {6, 0, 1, 1}, {0, -1, 1, 1}, {0, 36, 1, 1}, {0, 0, 0, 1}, {0, 0, 100, 1},
            {0, 0, 1, 0}, {0, 0, 1, 10}, {LOW, 0, 1, 1}, {0, HIGH, 1, 1}, {0, 0, LOW, 1}, {0, 0, 1, HIGH}};
        for (int[] b : bad) {
            d.due("2 run bad", x.run(b[0], b[1], b[2], b[3]), BAD);
        }
        d.due("2 none came", x.count(0), 0);
        for (int i = 0; i < 10; i++) {
            d.due("2 run " + i, i % 2 == 0 ? x.run(5, 35, 99, 9) : x.run(0, 0, 1, 1), i);
        }
        d.due("2 full", x.run(0, 0, 1, 1), FULL);
        d.due("2 bad ahead of full", x.run(6, 0, 1, 1), BAD);
        d.due("2 ten", x.count(0), 10);
        d.due("2 odds", x.told(0, 4), 99000);
        d.due("2 odds", x.told(1, 4), 1000);
    }

    private void told() {
        BehindWall x = kinds(14, 4);
        int[] hurt = {4, 8, 13, 9, 11, 1};
        int[] many = {4, 4, 4, 4, 7, 12};
        int[] worth = {4, 13, 95, 26, 90, 2};
        for (int k = 0; k < 6; k++) {
            d.due("3 kind", x.told(k, 0), k);
            d.due("3 cell", x.told(k, 1), 14);
            d.due("3 likely", x.told(k, 2), 10);
            d.due("3 deep", x.told(k, 3), 4);
            d.due("3 odds", x.told(k, 4), 10000);
            d.due("3 hurt of " + k, x.told(k, 5), hurt[k]);
            d.due("3 many of " + k, x.told(k, 6), many[k]);
            d.due("3 worth of " + k, x.told(k, 7), worth[k]);
        }
        for (int[] b : new int[][] {{-1, 0}, {6, 0}, {0, -1}, {0, 8}, {LOW, 0}, {HIGH, 0}, {0, LOW}, {0, HIGH}}) {
            d.due("3 bad", x.told(b[0], b[1]), BAD);
        }
        d.due("3 bad without runs", new BehindWall().told(0, 0), BAD);
        Dues.text(x, "hurt 100*d");
        int[] most = {99, 198, 108, 199, 106, 1};
        for (int k = 0; k < 6; k++) {
            d.due("3 most hurt of " + k, x.told(k, 5), most[k]);
        }
        Dues.text(x, "hurt 0-d");
        int[] least = {0, 0, 9, 1, 7, 1};
        for (int k = 0; k < 6; k++) {
            d.due("3 least hurt of " + k, x.told(k, 5), least[k]);
        }
    }

    private void as() {
        BehindWall x = kinds(0, 7);
        int[] under = {1, 1 | 2, 1 | 4, 1 | 2 | 8, 1 | 4 | 16, 1 | 32};
        for (int r = 0; r < 6; r++) {
            for (int k = 0; k < 6; k++) {
                d.due("4 as " + r + " " + k, x.as(r, k), (under[r] >> k & 1) == 1 ? 7 : KIND);
            }
        }
        d.due("4 bad run", x.as(6, 0), BAD);
        d.due("4 bad run", x.as(-1, 0), BAD);
        d.due("4 bad kind", x.as(0, 6), BAD);
        d.due("4 bad kind", x.as(0, -1), BAD);
        d.due("4 bad", x.as(LOW, HIGH), BAD);
    }

    private void turns() {
        BehindWall x = kinds(7, 2);
        d.due("5 turns", x.turns(0, 5), 0);
        d.due("5 turned", x.told(0, 0), 5);
        d.due("5 passes", x.told(0, 6), 12);
        d.due("5 odds stay", x.told(0, 4), 10000);
        d.due("5 turns", x.turns(0, 2), 5);
        d.due("5 passes", x.passes(0, 1), 62);
        d.due("5 bad", x.turns(0, 6), BAD);
        d.due("5 bad", x.turns(0, -1), BAD);
        d.due("5 bad", x.turns(6, 0), BAD);
        d.due("5 bad", x.turns(-1, 0), BAD);
        d.due("5 stays", x.told(0, 0), 2);
    }

    private void set() {
        BehindWall x = kinds(7, 2);
        d.due("6 cell", x.set(0, 1, 35), 7);
        d.due("6 cell", x.told(0, 1), 35);
        d.due("6 passes", x.passes(0, 5), 32);
        d.due("6 passes", x.passes(0, 1), 0);
        d.due("6 likely", x.set(0, 2, 99), 10);
        d.due("6 likely", x.told(0, 2), 99);
        d.due("6 odds stay", x.told(0, 4), 10000);
        d.due("6 deep", x.set(0, 3, 9), 2);
        d.due("6 deep", x.told(0, 3), 9);
        int[][] bad = {{0, 0, 1}, {0, 4, 1}, {0, 1, -1}, {0, 1, 36}, {0, 2, 0}, {0, 2, 100}, {0, 3, 0}, {0, 3, 10},
            {-1, 1, 1}, {6, 1, 1}, {HIGH, 1, 1}, {0, LOW, 1}, {0, 1, HIGH}};
        for (int[] b : bad) {
            d.due("6 bad", x.set(b[0], b[1], b[2]), BAD);
        }
        d.due("6 cell again", x.set(0, 1, 0), 35);
        d.due("6 likely again", x.set(0, 2, 1), 99);
        d.due("6 deep again", x.set(0, 3, 1), 9);
    }

    private void passes() {
        BehindWall x = kinds(9, 2);
        int[][] sets = {{0, 8, 8, 8, 8, 8}, {0, 8, 8, 8, 8, 8}, {0, 56, 0, 0, 0, 0}, {0, 8, 16, 32, 32, 32},
            {0, 56, 32, 32, 32, 32}, {9, 9, 9, 9, 9, 9}};
        for (int k = 0; k < 6; k++) {
            for (int row = 0; row < 6; row++) {
                d.due("7 passes " + k + " " + row, x.passes(k, row), sets[k][row]);
            }
        }
        for (int c = 0; c < 6; c++) {
            x.set(5, 1, c + 24);
            d.due("7 stud at column " + c, x.passes(5, 0), 1 << c | 1 << (c + 3) % 6);
            d.due("7 stud up to the top", x.passes(5, 5), 1 << c | 1 << (c + 3) % 6);
        }
        x.set(4, 1, 30);
        d.due("7 bend at the top", x.passes(4, 5), 63);
        x.set(4, 1, 35);
        d.due("7 bend at the end", x.told(4, 6), 1);
        x.set(3, 1, 5);
        d.due("7 aslant at the side", x.passes(3, 5), 32);
        for (int[] b : new int[][] {{0, -1}, {0, 6}, {-1, 0}, {6, 0}, {0, LOW}, {HIGH, 0}}) {
            d.due("7 bad", x.passes(b[0], b[1]), BAD);
        }
    }

    private void tells() {
        // at CELL 9 (ROW 1) itself, for DEEP 3, 4, 6, 7: bits by KIND
        int[][] due = {{3, 52, 31, 20, 63}, {4, 32, 31, 20, 63}, {6, 32, 31, 20, 63}, {7, 32, 11, 20, 63}};
        for (int[] row : due) {
            BehindWall x = kinds(9, row[0]);
            for (int sort = 0; sort < 4; sort++) {
                for (int k = 0; k < 6; k++) {
                    d.due("8 tells of " + k + " deep " + row[0] + " sort " + sort, x.tells(k, sort, 9),
                        row[1 + sort] >> k & 1);
                    d.due("8 tells where none passes", x.tells(k, sort, 1), 0);
                }
            }
        }
        BehindWall x = kinds(9, 1);
        d.due("8 stud beeps in even rows", x.tells(5, 1, 12), 1);
        d.due("8 stud beeps in even rows", x.tells(5, 1, 15), 1);
        d.due("8 stud beeps in even rows", x.tells(5, 1, 18), 0);
        d.due("8 bend feels warm above", x.tells(4, 2, 35), 1);
        d.due("8 pipe does not", x.tells(2, 2, 35), 0);
        int[][] bad = {{-1, 0, 0}, {6, 0, 0}, {0, -1, 0}, {0, 4, 0}, {0, 0, -1}, {0, 0, 36}, {HIGH, LOW, HIGH}};
        for (int[] b : bad) {
            d.due("8 bad", x.tells(b[0], b[1], b[2]), BAD);
        }
    }

    private void deal() {
        BehindWall x = new BehindWall();
        d.due("9 bad", x.deal(0), BAD);
        d.due("9 bad", x.deal(11), BAD);
        d.due("9 bad", x.deal(LOW), BAD);
        d.due("9 deal", x.deal(3), 3);
        int z = 1;
        int[] by = {6, 36, 40, 9};
        int[] from = {0, 0, 1, 1};
        for (int r = 0; r < 3; r++) {
            for (int i = 0; i < 4; i++) {
                z = next(z);
                d.due("9 drawn " + r + " " + i, x.told(r, i), from[i] + (z >>> 8) % by[i]);
            }
            d.due("9 odds", x.told(r, 4), x.told(r, 2) * 1000);
        }
        d.due("9 z", x.count(7), z);
        d.due("9 the rest", x.deal(10), 7);
        for (int i = 0; i < 28; i++) {
            z = next(z);
        }
        d.due("9 no draws for others", x.count(7), z);
        d.due("9 no room", x.deal(1), 0);
        d.due("9 no draws", x.count(7), z);
        d.due("9 bad without room", x.deal(11), BAD);
    }

    private void seed() {
        BehindWall x = new BehindWall();
        d.due("10 seed", x.seed(LOW), 1);
        d.due("10 seed", x.seed(HIGH), LOW);
        d.due("10 seed", x.seed(0), HIGH);
        d.due("10 z", x.count(7), 0);
    }

    private void rule() {
        BehindWall x = new BehindWall();
        d.due("11 slip", x.rule(0, 49), 10);
        d.due("11 slip", x.rule(0, 0), 49);
        d.due("11 slip", x.count(2), 0);
        d.due("11 mains", x.rule(1, 0), 1);
        d.due("11 mains", x.rule(1, 1), 0);
        d.due("11 mains", x.count(3), 1);
        for (int[] b : new int[][] {{-1, 0}, {2, 0}, {0, -1}, {0, 50}, {1, -1}, {1, 2}, {LOW, 0}, {0, HIGH}}) {
            d.due("11 bad", x.rule(b[0], b[1]), BAD);
        }
        d.due("11 slip stays", x.count(2), 0);
    }

    private void build() {
        BehindWall x = new BehindWall();
        d.due("12 none", x.build(), NO);
        d.due("12 no draw", x.count(7), 1);
        // three ways with 1, 2, 3 of 6: which is TRUE shows by a HOLE where it alone passes
        for (int seed = 0; seed < 40; seed++) {
            BehindWall y = new BehindWall();
            y.run(0, 0, 1, 1);
            y.run(0, 1, 2, 1);
            y.run(0, 2, 3, 1);
            y.seed(seed);
            d.due("12 build", y.build(), 3);
            d.due("12 a draw", y.count(7), next(seed));
            int rest = (next(seed) >>> 8) % 6;
            int due = rest < 1 ? 0 : rest < 3 ? 1 : 2;
            for (int c = 0; c < 3; c++) {
                d.due("12 true by " + seed, y.drill(c, 9), c == due ? 1 : 0);
            }
            d.due("12 odds stay", y.told(0, 4), 1000);
        }
        BehindWall y = new BehindWall();
        y.run(0, 0, 50, 1);
        y.run(0, 1, 50, 1);
        y.build();
        int first = y.drill(0, 1);
        boolean other = false;
        for (int i = 0; i < 30; i++) {
            d.due("12 anew", y.build(), 2);
            other |= y.drill(0, 1) != first;
        }
        d.dueTrue("12 anew may be another", other);
        d.due("12 built", y.house(7), 1);
        d.due("12 no tests", y.house(3), 0);
        d.due("12 no steps", y.count(1), 0);
    }

    private void probe() {
        BehindWall x = new BehindWall();
        d.due("13 nothing built", x.probe(0, 0), NO);
        for (int[] b : new int[][] {{-1, 0}, {4, 0}, {0, -1}, {0, 36}, {LOW, HIGH}}) {
            d.due("13 bad ahead of no", x.probe(b[0], b[1]), BAD);
        }
        x.run(5, 0, 3, 1);
        x.run(2, 12, 5, 1);
        x.rule(0, 0);
        x.build();
        int z = x.count(7);
        boolean studTrue = x.drill(0, 9) == 1;
        d.due("13 feel", x.probe(2, 12), studTrue ? 0 : 1);
        d.due("13 a draw even without slips", x.count(7), next(z));
        d.due("13 odds", x.told(0, 4), studTrue ? 3000 : 0);
        d.due("13 odds", x.told(1, 4), studTrue ? 0 : 5000);
        d.due("13 minutes", x.house(5), 3);
        x.probe(3, 0);
        d.due("13 no draw of a hole", x.count(7), next(z));
        d.due("13 minutes", x.house(5), 12);
        x.probe(0, 0);
        x.probe(1, 0);
        d.due("13 minutes", x.house(5), 15);
        d.due("13 tests", x.house(3), 4);
        d.due("13 slips", x.house(4), 0);
        d.due("13 no step", x.count(1), 0);
        slips();
        slipsJustBelow();
        cutOdds();
    }

    private void slips() {
        for (int seed = 0; seed < 60; seed++) {
            BehindWall x = new BehindWall();
            x.run(0, 0, 7, 1);
            x.run(0, 1, 9, 1);
            x.seed(seed * 1000003);
            x.build();
            int tells = x.drill(0, 1);
            x.rule(0, 49);
            x.seed(seed);
            boolean slip = (next(seed) >>> 8) % 100 < 49;
            int told = slip ? 1 - tells : tells;
            d.due("13 told with seed " + seed, x.probe(1, 0), told);
            d.due("13 slips", x.house(4), slip ? 1 : 0);
            d.due("13 odds", x.told(0, 4), told == 1 ? 7000 * 51 / 100 : 7000 * 49 / 100);
            d.due("13 odds", x.told(1, 4), told == 0 ? 9000 * 51 / 100 : 9000 * 49 / 100);
            d.due("13 a hole does not slip", x.probe(3, 0), tells);
        }
    }

    /** A draw whose rest is just SLIP doesn't slip, one more than it does. */
    private void slipsJustBelow() {
        for (int seed = 0; seed < 200; seed++) {
            int rest = (next(seed) >>> 8) % 100;
            if (rest > 48) {
                continue;
            }
            for (int slip = rest; slip < rest + 2; slip++) {
                BehindWall x = new BehindWall();
                x.run(0, 0, 1, 1);
                x.build();
                x.rule(0, slip);
                x.seed(seed);
                d.due("13 rest " + rest + " slip " + slip, x.probe(1, 0), slip == rest ? 1 : 0);
            }
        }
    }

    private void cutOdds() {
        BehindWall x = new BehindWall();
        x.run(0, 0, 1, 1);
        x.rule(0, 49);
        x.build();
        int odds = 1000;
        for (int i = 0; i < 12; i++) {
            int told = x.probe(1, 0);
            odds = odds * (told == 1 ? 51 : 49) / 100;
            if (odds == 0) {
                odds = 1000;
            }
            d.due("13 cut odds", x.told(0, 4), odds);
        }
    }

    private void probeForgets() {
        BehindWall x = new BehindWall();
        x.run(0, 0, 4, 1);
        x.run(0, 1, 6, 1);
        x.build();
        int truth = x.drill(0, 1) == 1 ? 0 : 1;
        x.probe(3, truth);
        d.due("13 the other is out", x.told(1 - truth, 4), 0);
        x.set(truth, 1, 5);
        x.set(1 - truth, 1, 5);
        x.set(truth, 2, 50);
        // TRUE PASSES no more where it did, and tells so: nothing is left but it
        x.turns(1 - truth, 5);
        x.probe(3, 2);
        d.due("13 one is left", x.told(truth, 4), truth == 0 ? 4000 : 6000);
        d.due("13 not forgotten", x.house(6), 0);
        BehindWall y = new BehindWall();
        y.run(0, 0, 4, 1);
        y.build();
        y.rule(0, 0);
        y.run(0, 1, 6, 1);
        y.probe(3, 0);
        d.due("13 run 1 is out", y.told(1, 4), 0);
        // now RUN 1 is TRUE by a BUILD, and a HOLE rules RUN 0 out
        y.set(0, 2, 1);
        y.set(1, 2, 99);
        for (int i = 0; i < 40 && y.drill(1, 1) == 0; i++) {
            y.build();
        }
        d.due("13 hole", y.probe(3, 1), 1);
        d.due("13 forgot", y.house(6), 1);
        d.due("13 odds anew, by likely now", y.told(0, 4), 1000);
        d.due("13 odds anew, by likely now", y.told(1, 4), 99000);
    }

    private void drill() {
        BehindWall x = new BehindWall();
        d.due("14 nothing built", x.drill(0, 1), NO);
        for (int[] b : new int[][] {{-1, 1}, {36, 1}, {0, 0}, {0, 10}, {LOW, HIGH}}) {
            d.due("14 bad ahead of no", x.drill(b[0], b[1]), BAD);
        }
        x.run(3, 1, 10, 4);
        x.build();
        d.due("14 not so deep", x.drill(1, 3), 0);
        d.due("14 beside it", x.drill(0, 9), 0);
        d.due("14 hit", x.drill(1, 4), 9);
        d.due("14 hit above", x.drill(8, 9), 9);
        d.due("14 cost", x.house(0), 18);
        d.due("14 hits", x.house(1), 2);
        d.due("14 holes", x.house(2), 4);
        d.due("14 odds stay", x.told(0, 4), 10000);
        d.due("14 no tests", x.house(3), 0);
        d.due("14 no draw", x.count(7), next(1));
        Dues.text(x, "hurt l*m");
        d.due("14 by law", x.drill(1, 9), 21);
        x.rule(1, 0);
        d.due("14 without mains", x.drill(1, 9), 1);
        d.due("14 cost", x.house(0), 40);
    }

    private void steps() {
        BehindWall x = new BehindWall();
        d.due("15 bad", x.steps(0), BAD);
        d.due("15 bad", x.steps(101), BAD);
        d.due("15 bad", x.steps(LOW), BAD);
        d.due("15 without runs", x.steps(100), 0);
        d.due("15 they count", x.count(1), 100);
        d.due("15 no draws", x.count(7), 1);
        x.run(5, 0, 3, 2);
        x.run(0, 1, 3, 2);
        x.steps(1);
        d.due("15 built", x.house(7), 1);
        d.due("15 by a draw", x.count(7), next(1));
        d.due("15 no test", x.house(3), 0);
        BehindWall y = new BehindWall();
        y.run(5, 0, 3, 2);
        y.run(0, 1, 3, 2);
        y.build();
        int z = next(1);
        int slips = 0;
        for (int i = 0; i < 40; i++) {
            z = next(z);
            int sort = (z >>> 8) % 4;
            z = next(z);
            int cell = (z >>> 8) % 36;
            int before = y.house(4);
            y.seed(z);
            y.probe(sort, cell);
            int slip = y.house(4) - before;
            d.due("15 step " + i, x.steps(1), slip);
            slips += slip;
            z = y.count(7);
            d.due("15 z", x.count(7), z);
            d.due("15 odds", x.told(0, 4), y.told(0, 4));
            d.due("15 odds", x.told(1, 4), y.told(1, 4));
            d.due("15 minutes", x.house(5), y.house(5));
        }
        d.dueTrue("15 some slips", slips > 0);
        d.due("15 the step", x.count(1), 141);
        BehindWall w = new BehindWall();
        w.steps(100);
        w.run(5, 0, 3, 2);
        w.run(0, 1, 3, 2);
        d.due("15 all at once", w.steps(41), slips);
        d.due("15 z", w.count(7), z);
    }

    private void stepsHaveABound() {
        BehindWall x = new BehindWall();
        x.run(0, 0, 1, 1);
        for (int i = 0; i < 99; i++) {
            x.steps(100);
        }
        d.due("15 the step", x.count(1), 9900);
        x.steps(98);
        int tests = x.house(3);
        d.due("15 tests", tests, 9997);
        x.steps(5);
        d.due("15 up to 9999", x.count(1), 9999);
        d.due("15 one test more", x.house(3), 9998);
        int z = x.count(7);
        d.due("15 no more", x.steps(100), 0);
        d.due("15 no draws", x.count(7), z);
        d.dueTrue("15 thoughts have no bound", x.behind(5, 0) > x.behind(0, 0));
        x.keep();
        d.due("15 nothing to tell", x.check(3), 0);
        x.tell(1);
        d.due("15 one too many", x.check(3), 1);
    }

    private void house() {
        BehindWall x = new BehindWall();
        d.due("16 bad", x.house(-1), BAD);
        d.due("16 bad", x.house(10), BAD);
        d.due("16 bad", x.house(LOW), BAD);
        d.due("16 none", x.house(8), NONE);
        x.run(0, 0, 5, 1);
        x.run(0, 1, 9, 1);
        x.run(0, 2, 9, 1);
        d.due("16 the least of several", x.house(8), 1);
        BehindWall w = new BehindWall();
        w.run(0, 0, 9, 1);
        w.run(0, 1, 5, 1);
        w.run(0, 2, 7, 1);
        d.due("16 the first", w.house(8), 0);
        w.run(0, 3, 10, 1);
        d.due("16 the last", w.house(8), 3);
        d.due("16 not known, not built", x.house(9), 0);
        d.due("16 not built", x.house(7), 0);
        BehindWall y = new BehindWall();
        y.run(0, 0, 9, 1);
        y.build();
        y.run(0, 1, 1, 1);
        d.due("16 known by 900 of 1000", y.house(9), 1);
        y.run(0, 2, 1, 1);
        d.due("16 not known by less", y.house(9), 0);
    }
}

import java.util.function.Supplier;

/** The "Terms", what stands ahead of part 1, part 1 (the wall), part 2 (what is done), sentence by sentence. */
public final class WallSentencesTest {
    private static final int BAD = BehindWall.BAD, NO = BehindWall.NO, FULL = BehindWall.FULL, NONE = BehindWall.NONE,
        NOTHING = BehindWall.NOTHING, KIND = BehindWall.KIND;
    private static final int LOW = Integer.MIN_VALUE, HIGH = Integer.MAX_VALUE;
    private static final Supplier<BehindWall> RICH = Whole::rich;
    private final Sentences s;

    private WallSentencesTest(Sentences s) {
        this.s = s;
    }

    public static void main(String[] args) throws Exception {
        WallSentencesTest t = new WallSentencesTest(new Sentences());
        t.cutsTowards0();
        t.theFirstRefusal();
        t.changesNothing();
        t.changesOnlyWhatIsTold();
        t.none();
        t.sets();
        t.cells();
        t.rowsAndColumns();
        t.tenRuns();
        t.begins();
        t.likely();
        t.deep();
        t.oddsAtFirst();
        t.kinds();
        t.trueAtFirst();
        t.slipAndMains();
        t.talliesAtFirst();
        t.theStep();
        t.passesOfRun();
        t.passesOfAslant();
        t.passesOfPipe();
        t.passesOfBend();
        t.passesOfStud();
        t.knock();
        t.beep();
        t.feel();
        t.hole();
        t.hurtOfRun();
        t.hurtOfOthers();
        t.worth();
        t.kindsNotNamed();
        t.build();
        t.test();
        t.testOfAHole();
        t.testsAndMinutes();
        t.oddsBecome();
        t.forgets();
        t.drilling();
        t.stepWithoutRuns();
        t.stepBuilds();
        t.stepTests();
        t.stepCounts();
        t.zAtFirst();
        t.draws();
        t.drawnRuns();
        t.s.end("WallSentencesTest", 1, 0);
    }

    // ---- ahead of part 1

    private void cutsTowards0() {
        s.term(0, "All numbers are whole; / cuts towards 0.");
        BehindWall x = new BehindWall();
        String[] laws = {"7/2", "(0-7)/2", "7/(0-2)", "(0-7)/(0-2)", "(0-1)/2", "1/2"};
        int[] due = {3, -3, -3, 3, 0, 0};
        for (int i = 0; i < laws.length; i++) {
            Dues.text(x, "fee " + laws[i]);
            s.due(laws[i], x.fee(), due[i]);
        }
    }

    private void theFirstRefusal() {
        s.term(0, "of several the one that stands first with it");
        s.refused("run, BAD and FULL", Whole::full, x -> x.run(6, 0, 1, 1), BAD);
        s.refused("mark, NOTHING and INDEX", RICH, x -> x.mark(2, -1, NONE), NOTHING);
        s.refused("copy, KIND and INDEX", RICH, x -> x.copy(0, 9, 1, 9, 9), KIND);
        s.refused("probe, BAD and NO", Whole::unbuilt, x -> x.probe(4, 0), BAD);
    }

    private void changesNothing() {
        s.term(0, "and changes nothing (but the tape and the numbers that wait, where told)");
        // the answers that are no refusal but tell that there is none, and calls that only ask
        Sentences.Asked[] asked = {x -> x.told(0, 5), x -> x.as(3, 1), x -> x.as(1, 3), x -> x.passes(3, 2),
            x -> x.tells(3, 1, 2), x -> x.house(8), x -> x.house(9), x -> x.chance(14), x -> x.risk(14, 9),
            x -> x.where(0, 9, 1), x -> x.safe(14, 500), x -> x.learn(1, 14, 0, 9), x -> x.worthiest(0, 9, 2),
            x -> x.fits(0, 1), x -> x.behind(40, 3), x -> x.when(), x -> x.slipped(9, 1), x -> x.fee(), x -> x.fine(2),
            x -> x.textTold(1, 1), x -> x.why(0), x -> x.reads(1), x -> x.ask(0, 2), x -> x.item(1, 1),
            x -> x.rest(3, 5), x -> x.count(7), x -> x.where(3, 9, 0), x -> x.learn(0, 0, 3, 9)};
        for (int i = 0; i < asked.length; i++) {
            BehindWall x = Whole.rich();
            asked[i].of(x);
            s.same("call " + i + " that only asks", x, Whole.rich());
        }
    }

    private void changesOnlyWhatIsTold() {
        s.term(0, "(but the tape and the numbers that wait, where told)");
        BehindWall x = Whole.rich();
        x.feed(0, 0, 0);
        s.dueTrue("text with a FAULT", x.text() <= -100 && x.count(6) == 0);
        s.same("but the tape", x, Whole.withEmptyTape());
        BehindWall y = Whole.rich();
        s.due("check that is refused", y.check(31), BAD);
        s.same("but the numbers that wait", y, Whole.withNoneWaiting());
    }

    private void none() {
        s.term(0, "NONE: there is none.");
        BehindWall x = new BehindWall();
        s.due("the likeliest of no RUNS", x.house(8), NONE);
        s.due("the TEXT of a KEY without one", x.why(2), NONE);
        s.due("when, with nothing to know", x.when(), NONE);
    }

    private void sets() {
        s.term(0, "Sets are told by bits.");
        BehindWall x = Sentences.runs(5, 2, 1, 1, 2, 0, 1, 1, 0, 35, 1, 1);
        s.due("COLUMNS 2 and 5", x.passes(0, 3), 4 + 32);
        s.due("all", x.passes(1, 0), 63);
        s.due("none", x.passes(1, 1), 0);
        s.due("COLUMN 5", x.passes(2, 5), 32);
    }

    // ---- part 1

    private void cells() {
        s.term(1, "THE WALL has CELLS 0 .. 35");
        s.onlyWithin("run", RICH, 0, 35, (x, c) -> x.run(0, c, 1, 1));
        s.onlyWithin("set", RICH, 0, 35, (x, c) -> x.set(0, 1, c));
        s.onlyWithin("tells", RICH, 0, 35, (x, c) -> x.tells(0, 3, c));
        s.onlyWithin("probe", RICH, 0, 35, (x, c) -> x.probe(3, c));
        s.onlyWithin("drill", RICH, 0, 35, (x, c) -> x.drill(c, 1));
        s.onlyWithin("chance", RICH, 0, 35, (x, c) -> x.chance(c));
        s.onlyWithin("risk", RICH, 0, 35, (x, c) -> x.risk(c, 1));
        s.onlyWithin("safe", RICH, 0, 35, (x, c) -> x.safe(c, 0));
        s.onlyWithin("learn", RICH, 0, 35, (x, c) -> x.learn(3, c, 0, 9));
    }

    private void rowsAndColumns() {
        s.term(1, "ROW c / 6 (0 the lowest), COLUMN the rest of c by 6");
        for (int c = 0; c < 36; c++) {
            BehindWall x = Sentences.runs(0, c, 1, 1);
            for (int row = 0; row < 6; row++) {
                s.due("up from " + c + " in ROW " + row, x.passes(0, row), row * 6 + 5 < c ? 0 : 1 << c % 6);
            }
        }
    }

    private void tenRuns() {
        s.term(1, "10 at most, numbered from 0");
        BehindWall x = new BehindWall();
        for (int i = 0; i < 10; i++) {
            s.due("a RUN", x.run(0, i, 1, 1), i);
        }
        s.due("one too many", x.run(0, 0, 1, 1), FULL);
        s.due("how many", x.count(0), 10);
        for (int i = 0; i < 10; i++) {
            s.due("CELL of RUN " + i, x.told(i, 1), i);
        }
    }

    private void begins() {
        s.term(1, "CELL (where it begins)");
        BehindWall x = Sentences.runs(0, 14, 1, 1, 3, 14, 1, 1, 4, 14, 1, 1);
        for (int run = 0; run < 3; run++) {
            s.due("not ahead of it in its ROW, not below it", x.passes(run, 2) & 3, 0);
            s.due("not below it", x.passes(run, 1), 0);
            s.due("there", x.tells(run, 3, 14), 1);
        }
    }

    private void likely() {
        s.term(1, "LIKELY 1 .. 99");
        s.onlyWithin("run", RICH, 1, 99, (x, v) -> x.run(0, 0, v, 1));
        s.onlyWithin("set", RICH, 1, 99, (x, v) -> x.set(0, 2, v));
        BehindWall x = Sentences.runs(0, 0, 1, 1, 0, 0, 99, 1);
        s.due("the least", x.told(0, 2), 1);
        s.due("the greatest", x.told(1, 2), 99);
    }

    private void deep() {
        s.term(1, "DEEP 1 .. 9");
        s.onlyWithin("run", RICH, 1, 9, (x, v) -> x.run(0, 0, 1, v));
        s.onlyWithin("set", RICH, 1, 9, (x, v) -> x.set(0, 3, v));
        BehindWall x = Sentences.runs(0, 0, 1, 1, 0, 0, 1, 9);
        s.due("the least", x.told(0, 3), 1);
        s.due("the greatest", x.told(1, 3), 9);
    }

    private void oddsAtFirst() {
        s.term(1, "ODDS (at first LIKELY times 1000)");
        BehindWall x = Sentences.runs(0, 0, 1, 1, 0, 0, 99, 1);
        s.due("the least", x.told(0, 4), 1000);
        s.due("the greatest", x.told(1, 4), 99000);
        x.deal(8);
        for (int i = 2; i < 10; i++) {
            s.due("of one that was drawn", x.told(i, 4), 1000 * x.told(i, 2));
        }
    }

    private void kinds() {
        s.term(1, "0 RUN; 1 CABLE, 2 PIPE, 5 STUD, under RUN; 3 ASLANT, under CABLE; 4 BEND, under PIPE (all are RUNS)");
        int[][] above = {{0}, {0, 1}, {0, 2}, {0, 1, 3}, {0, 2, 4}, {0, 5}};
        for (int kind = 0; kind < 6; kind++) {
            BehindWall x = Sentences.runs(kind, 0, 1, 8);
            int[] due = {KIND, KIND, KIND, KIND, KIND, KIND};
            for (int a : above[kind]) {
                due[a] = 8;
            }
            for (int k = 0; k < 6; k++) {
                s.due("one of KIND " + kind + " as one of " + k, x.as(0, k), due[k]);
            }
        }
        s.onlyWithin("run", RICH, 0, 5, (x, k) -> x.run(k, 0, 1, 1));
        s.onlyWithin("turns", RICH, 0, 5, (x, k) -> x.turns(0, k));
    }

    private void trueAtFirst() {
        s.term(1, "TRUE is one of them, or none (nothing is BUILT; at first)");
        BehindWall x = Sentences.runs(0, 0, 1, 1, 0, 1, 1, 1);
        s.due("not BUILT", x.house(7), 0);
        s.due("no TEST", x.probe(3, 0), NO);
        s.due("no DRILLING", x.drill(0, 9), NO);
        x.build();
        s.due("one of them", x.drill(0, 9) + x.drill(1, 9), 1);
    }

    private void slipAndMains() {
        s.term(1, "SLIP 0 .. 49 (10 at first), MAINS 0 or 1 (1 at first)");
        BehindWall x = new BehindWall();
        s.due("SLIP at first", x.count(2), 10);
        s.due("MAINS at first", x.count(3), 1);
        s.onlyWithin("SLIP", RICH, 0, 49, (y, v) -> y.rule(0, v));
        s.onlyWithin("MAINS", RICH, 0, 1, (y, v) -> y.rule(1, v));
    }

    private void talliesAtFirst() {
        s.term(1, "COST, HITS, HOLES, TESTS, SLIPS, MINUTES, FORGOT are 0 at first");
        BehindWall x = new BehindWall();
        for (int what = 0; what < 7; what++) {
            s.due("house " + what, x.house(what), 0);
        }
    }

    private void theStep() {
        s.term(1, "THE STEP is 0 at first, 9999 at most");
        BehindWall x = Sentences.runs(0, 0, 1, 1);
        s.due("at first", x.count(1), 0);
        Sentences.stepsUpTo(x, 9998);
        x.steps(1);
        s.due("the last one", x.count(1), 9999);
        x.steps(1);
        s.due("no more", x.count(1), 9999);
    }

    /** The CELLS that one of a KIND from a CELL on PASSES are these. */
    private void way(int kind, int cell, int... due) {
        BehindWall x = Sentences.runs(kind, cell, 1, 1);
        long bits = 0;
        for (int c : due) {
            bits |= 1L << c;
        }
        long got = 0;
        for (int row = 0; row < 6; row++) {
            got |= (long) x.passes(0, row) << 6 * row;
        }
        s.due("from " + cell, got, bits);
        s.due("how many from " + cell, x.told(0, 6), due.length);
    }

    private void passesOfRun() {
        s.term(1, "RUN: its CELL and all above it in its COLUMN.");
        way(0, 0, 0, 6, 12, 18, 24, 30);
        way(0, 14, 14, 20, 26, 32);
        way(0, 29, 29, 35);
        way(0, 30, 30);
        way(0, 35, 35);
    }

    private void passesOfAslant() {
        s.term(1, "ASLANT: its CELL, and from ROW to ROW upwards the one a COLUMN further (5 at most).");
        way(3, 0, 0, 7, 14, 21, 28, 35);
        way(3, 3, 3, 10, 17, 23, 29, 35);
        way(3, 5, 5, 11, 17, 23, 29, 35);
        way(3, 24, 24, 31);
        way(3, 28, 28, 35);
        way(3, 29, 29, 35);
        way(3, 30, 30);
        way(3, 35, 35);
    }

    private void passesOfPipe() {
        s.term(1, "PIPE: its CELL and all in its ROW with greater COLUMNS.");
        way(2, 0, 0, 1, 2, 3, 4, 5);
        way(2, 5, 5);
        way(2, 14, 14, 15, 16, 17);
        way(2, 30, 30, 31, 32, 33, 34, 35);
        way(2, 35, 35);
    }

    private void passesOfBend() {
        s.term(1, "BEND: as PIPE, and all of COLUMN 5 above its ROW.");
        way(4, 0, 0, 1, 2, 3, 4, 5, 11, 17, 23, 29, 35);
        way(4, 5, 5, 11, 17, 23, 29, 35);
        way(4, 26, 26, 27, 28, 29, 35);
        way(4, 33, 33, 34, 35);
        way(4, 35, 35);
    }

    private void passesOfStud() {
        s.term(1, "STUD: all of its COLUMN, and of the one 3 from it.");
        way(5, 0, 0, 3, 6, 9, 12, 15, 18, 21, 24, 27, 30, 33);
        way(5, 33, 0, 3, 6, 9, 12, 15, 18, 21, 24, 27, 30, 33);
        way(5, 14, 2, 5, 8, 11, 14, 17, 20, 23, 26, 29, 32, 35);
        way(5, 35, 2, 5, 8, 11, 14, 17, 20, 23, 26, 29, 32, 35);
        way(5, 4, 1, 4, 7, 10, 13, 16, 19, 22, 25, 28, 31, 34);
    }

    /** What one of a KIND from CELL 14 on, that DEEP, TELLS of a sort at CELLS. */
    private void tells(int kind, int deep, int sort, int cell, int due) {
        BehindWall x = Sentences.runs(kind, 14, 1, deep);
        s.due("KIND " + kind + " DEEP " + deep + " at " + cell, x.tells(0, sort, cell), due);
    }

    /** One of a KIND, from each CELL on, TELLS yes of a sort just where it PASSES, if it does at all. */
    private void tellsWhereItPasses(int kind, int deep, int sort, boolean atAll, boolean inEvenRows) {
        for (int from = 0; from < 36; from++) {
            BehindWall x = Sentences.runs(kind, from, 1, deep);
            for (int c = 0; c < 36; c++) {
                boolean yes = atAll && (x.passes(0, c / 6) >> c % 6 & 1) == 1 && (!inEvenRows || c / 6 % 2 == 0);
                s.due("KIND " + kind + " DEEP " + deep + " from " + from + " at " + c, x.tells(0, sort, c), yes ? 1 : 0);
            }
        }
    }

    private void knock() {
        s.term(1, "0 KNOCK: RUN: no. PIPE: if it PASSES it, and DEEP is 3 or less. STUD: if it PASSES it.");
        tells(0, 1, 0, 14, 0);
        tells(2, 1, 0, 14, 1);
        tells(2, 3, 0, 14, 1);
        tells(2, 3, 0, 17, 1);
        tells(2, 4, 0, 14, 0);
        tells(2, 9, 0, 14, 0);
        tells(2, 3, 0, 13, 0);
        tells(2, 3, 0, 18, 0);
        tells(5, 9, 0, 14, 1);
        tells(5, 9, 0, 5, 1);
        tells(5, 9, 0, 11, 1);
        tells(5, 1, 0, 13, 0);
        tellsWhereItPasses(0, 1, 0, false, false);
        tellsWhereItPasses(2, 3, 0, true, false);
        tellsWhereItPasses(2, 4, 0, false, false);
        tellsWhereItPasses(5, 9, 0, true, false);
    }

    private void beep() {
        s.term(1, "1 BEEP: RUN: if it PASSES it. PIPE: as RUN, if DEEP is 6 or less, else no. "
            + "STUD: as RUN, if the ROW is even, else no.");
        tells(0, 9, 1, 14, 1);
        tells(0, 9, 1, 20, 1);
        tells(0, 1, 1, 8, 0);
        tells(2, 6, 1, 14, 1);
        tells(2, 6, 1, 17, 1);
        tells(2, 7, 1, 14, 0);
        tells(2, 6, 1, 18, 0);
        for (int row = 0; row < 6; row++) {
            tells(5, 9, 1, 6 * row + 2, 1 - row % 2);
            tells(5, 9, 1, 6 * row + 5, 1 - row % 2);
            tells(5, 1, 1, 6 * row + 3, 0);
        }
        tellsWhereItPasses(0, 9, 1, true, false);
        tellsWhereItPasses(2, 6, 1, true, false);
        tellsWhereItPasses(2, 7, 1, false, false);
        tellsWhereItPasses(5, 9, 1, true, true);
    }

    private void feel() {
        s.term(1, "2 FEEL: RUN: no. PIPE: if it PASSES it.");
        tells(0, 1, 2, 14, 0);
        tells(2, 1, 2, 14, 1);
        tells(2, 9, 2, 17, 1);
        tells(2, 9, 2, 13, 0);
        tells(2, 9, 2, 18, 0);
        tellsWhereItPasses(0, 1, 2, false, false);
        tellsWhereItPasses(2, 9, 2, true, false);
    }

    private void hole() {
        s.term(1, "3 HOLE: RUN: if it PASSES it.");
        for (int kind = 0; kind < 6; kind++) {
            tellsWhereItPasses(kind, 9, 3, true, false);
        }
    }

    private void hurtOfRun() {
        s.term(1, "HURT: RUN: what hurt gives, held within 0 .. 99 (without a TEXT: DEEP).");
        BehindWall x = Sentences.runs(0, 0, 1, 1, 0, 0, 1, 9);
        s.due("without a TEXT", x.told(0, 5), 1);
        s.due("without a TEXT", x.told(1, 5), 9);
        String[] laws = {"98", "99", "100", "9999", "1", "0", "0-1", "0-9999", "9999*9999*9999"};
        int[] due = {98, 99, 99, 99, 1, 0, 0, 0, 0};
        for (int i = 0; i < laws.length; i++) {
            Dues.text(x, "hurt " + laws[i]);
            s.due(laws[i], x.told(0, 5), due[i]);
        }
    }

    private void hurtOfOthers() {
        s.term(1, "CABLE: twice as RUN. ASLANT: as CABLE, and 1. PIPE: as RUN, and 9. "
            + "BEND: as PIPE, less 2 (0 at least). STUD: 1.");
        // RUN hurts 1, 9 (DEEP), 0, 99 (the least and the most that are held)
        int[][] due = {{1, 2, 10, 3, 8, 1}, {9, 18, 18, 19, 16, 1}, {0, 0, 9, 1, 7, 1}, {99, 198, 108, 199, 106, 1}};
        for (int kind = 0; kind < 6; kind++) {
            BehindWall x = Sentences.runs(kind, 0, 1, 1);
            s.due("KIND " + kind + " DEEP 1", x.told(0, 5), due[0][kind]);
            x.set(0, 3, 9);
            s.due("KIND " + kind + " DEEP 9", x.told(0, 5), due[1][kind]);
            Dues.text(x, "hurt 0-3");
            s.due("KIND " + kind + " by hurt 0-3", x.told(0, 5), due[2][kind]);
            Dues.text(x, "hurt 500");
            s.due("KIND " + kind + " by hurt 500", x.told(0, 5), due[3][kind]);
        }
    }

    private void worth() {
        s.term(1, "WORTH: RUN: DEEP. CABLE: as RUN, and 9. ASLANT: twice as CABLE. PIPE: 99 less DEEP. "
            + "BEND: as PIPE, less 5. STUD: 2.");
        int[][] due = {{1, 10, 98, 20, 93, 2}, {9, 18, 90, 36, 85, 2}};
        for (int kind = 0; kind < 6; kind++) {
            BehindWall x = Sentences.runs(kind, 0, 1, 1, kind, 0, 1, 9);
            Dues.text(x, "hurt 77");
            s.due("KIND " + kind + " DEEP 1", x.told(0, 7), due[0][kind]);
            s.due("KIND " + kind + " DEEP 9", x.told(1, 7), due[1][kind]);
        }
    }

    private void kindsNotNamed() {
        s.term(1, "(A KIND that is not named does as the one above it.)");
        for (int cell = 0; cell < 36; cell++) {
            BehindWall x = Sentences.runs(0, cell, 1, 1, 1, cell, 1, 1);
            for (int row = 0; row < 6; row++) {
                s.due("CABLE passes as RUN", x.passes(1, row), x.passes(0, row));
            }
        }
        // CABLE and ASLANT as RUN, BEND as PIPE, STUD (FEEL) as RUN, at CELL 14 where all of them begin
        for (int deep = 1; deep < 10; deep++) {
            int[][] due = {{0, 0, -1, 0, deep < 4 ? 1 : 0, -1}, {1, 1, -1, 1, deep < 7 ? 1 : 0, -1},
                {0, 0, -1, 0, 1, 0}, {1, 1, 1, 1, 1, 1}};
            for (int sort = 0; sort < 4; sort++) {
                for (int kind = 0; kind < 6; kind++) {
                    if (due[sort][kind] >= 0) {
                        tells(kind, deep, sort, 14, due[sort][kind]);
                    }
                }
            }
        }
        // a BEND where a PIPE wouldn't be, by each sort
        tells(4, 3, 0, 35, 1);
        tells(4, 4, 0, 35, 0);
        tells(4, 6, 1, 35, 1);
        tells(4, 7, 1, 35, 0);
        tells(4, 9, 2, 35, 1);
        tells(4, 9, 2, 34, 0);
        tells(3, 9, 1, 21, 1);
        tells(3, 9, 1, 20, 0);
        for (int kind : new int[] {1, 3}) {
            tellsWhereItPasses(kind, 1, 0, false, false);
            tellsWhereItPasses(kind, 9, 1, true, false);
            tellsWhereItPasses(kind, 1, 2, false, false);
        }
        for (int deep = 1; deep < 10; deep++) {
            tellsWhereItPasses(4, deep, 0, deep < 4, false);
            tellsWhereItPasses(4, deep, 1, deep < 7, false);
        }
        tellsWhereItPasses(4, 9, 2, true, false);
        tellsWhereItPasses(5, 1, 2, false, false);
    }

    // ---- part 2

    /** The CELL of several at which drilling hits, if it is just one. */
    private static int hitAmong(BehindWall x, int... cells) {
        int found = -1;
        for (int c : cells) {
            int before = x.house(1);
            x.drill(c, 9);
            if (x.house(1) > before) {
                found = found < 0 ? c : -2;
            }
        }
        return found;
    }

    private void build() {
        s.term(2, "BUILD: a draw; TRUE is the first RUN with which LIKELY of all up to it, together, "
            + "is above its rest by LIKELY of all.");
        int[][] due = {{0, 0}, {1, 1}, {50, 1}, {99, 1}, {100, 2}, {101, 2}};
        for (int[] d : due) {
            BehindWall x = Sentences.runs(0, 0, 1, 1, 0, 1, 99, 1, 0, 2, 2, 1);
            int z = Sentences.seedFor(102, d[0]);
            x.seed(z);
            x.build();
            s.due("a draw", x.count(7), Sentences.next(z));
            s.due("rest " + d[0], hitAmong(x, 0, 1, 2), d[1]);
        }
        // ten RUNS, each with a CELL of its own
        int[] cells = {30, 31, 32, 33, 34, 35, 5, 11, 17, 23};
        for (int rest : new int[] {0, 98, 99, 494, 495, 890, 891, 989}) {
            BehindWall x = new BehindWall();
            for (int i = 0; i < 10; i++) {
                x.run(i < 6 ? 0 : 2, cells[i], 99, 1);
            }
            x.seed(Sentences.seedFor(990, rest));
            x.build();
            s.due("of ten, rest " + rest, hitAmong(x, cells), cells[rest / 99]);
        }
        BehindWall one = Sentences.runs(0, 7, 1, 1);
        one.build();
        s.due("of one", hitAmong(one, 1, 7), 7);
        BehindWall x = Sentences.runs(0, 0, 99, 1, 0, 1, 1, 1);
        x.set(0, 2, 1);
        x.seed(Sentences.seedFor(2, 1));
        x.build();
        s.due("by LIKELY, not by ODDS", hitAmong(x, 0, 1), 1);
    }

    private void test() {
        s.term(2, "it tells what TRUE TELLS; but (not of a HOLE) a draw; if its rest by 100 is below SLIP, "
            + "it tells the other way round (SLIPS 1 more)");
        for (int slip : new int[] {0, 1, 10, 49}) {
            for (int rest : new int[] {0, 1, 9, 10, 48, 49, 50, 99}) {
                // where a RUN and a PIPE that is DEEP 3 begin, and beside it: KNOCK, BEEP, FEEL
                for (int k = 0; k < 12; k++) {
                    int kind = k % 2 * 2;
                    int sort = k / 2 % 3;
                    int cell = k / 6 == 0 ? 14 : 13;
                    BehindWall x = Sentences.runs(kind, 14, 1, 3);
                    x.build();
                    x.rule(0, slip);
                    int z = Sentences.seedFor(100, rest);
                    x.seed(z);
                    boolean yes = cell == 14 && (kind == 2 || sort == 1);
                    boolean slips = rest < slip;
                    s.due("SLIP " + slip + " rest " + rest, x.probe(sort, cell), yes != slips ? 1 : 0);
                    s.due("SLIPS", x.house(4), slips ? 1 : 0);
                    s.due("a draw", x.count(7), Sentences.next(z));
                }
            }
        }
    }

    private void testOfAHole() {
        s.term(2, "(not of a HOLE)");
        BehindWall x = Sentences.runs(0, 14, 1, 9);
        x.build();
        x.rule(0, 49);
        int z = Sentences.seedFor(100, 0);
        x.seed(z);
        s.due("where it PASSES", x.probe(3, 14), 1);
        s.due("where it doesn't", x.probe(3, 8), 0);
        s.due("no SLIPS", x.house(4), 0);
        s.due("no draw", x.count(7), z);
    }

    private void testsAndMinutes() {
        s.term(2, "TESTS is 1 more, MINUTES 1, 2, 3, 9 more by the sort.");
        int[] minutes = {1, 2, 3, 9};
        BehindWall x = Sentences.runs(0, 14, 1, 9);
        x.build();
        int all = 0;
        for (int i = 0; i < 8; i++) {
            x.probe(i % 4, 14);
            all += minutes[i % 4];
            s.due("TESTS", x.house(3), i + 1);
            s.due("MINUTES of sort " + i % 4, x.house(5), all);
        }
    }

    /** RUN 0 is TRUE, up from CELL 0; RUN 1 up from CELL 1. */
    private static BehindWall trueAndOther(int likely, int otherLikely) {
        BehindWall x = Sentences.runs(0, 0, likely, 1);
        x.build();
        x.run(0, 1, otherLikely, 1);
        return x;
    }

    private void oddsBecome() {
        s.term(2, "become ODDS times 100 less SLIP by 100 (cut; by a HOLE they stay), "
            + "of the others ODDS times SLIP by 100 (cut; by a HOLE 0).");
        int never = Sentences.seedFor(100, 99);
        BehindWall x = trueAndOther(1, 1);
        int[] first = {900, 810, 729, 656, 590, 531};
        int[] second = {100, 10, 1, 0, 0, 0};
        for (int i = 0; i < 6; i++) {
            x.seed(never);
            x.probe(1, 0);
            s.due("of the one that TELLS so", x.told(0, 4), first[i]);
            s.due("of the other", x.told(1, 4), second[i]);
        }
        int[] slips = {0, 1, 49};
        int[][] due = {{99000, 0}, {98010, 330}, {50490, 16170}};
        for (int i = 0; i < 3; i++) {
            BehindWall y = trueAndOther(99, 33);
            y.rule(0, slips[i]);
            y.seed(never);
            y.probe(1, 0);
            s.due("SLIP " + slips[i], y.told(0, 4), due[i][0]);
            s.due("SLIP " + slips[i] + ", the other", y.told(1, 4), due[i][1]);
        }
        BehindWall told = trueAndOther(99, 33);
        told.seed(Sentences.seedFor(100, 0));
        told.probe(1, 0);
        s.due("as it was told, not as it is", told.told(0, 4), 9900);
        s.due("as it was told, not as it is", told.told(1, 4), 29700);
        BehindWall hole = trueAndOther(99, 33);
        hole.probe(3, 5);
        s.due("by a HOLE they stay", hole.told(1, 4), 33000);
        hole.probe(3, 0);
        s.due("by a HOLE they stay", hole.told(0, 4), 99000);
        s.due("by a HOLE 0", hole.told(1, 4), 0);
    }

    private void forgets() {
        s.term(2, "If ODDS of all are 0 then, they all are LIKELY times 1000 (FORGOT 1 more).");
        int slips = Sentences.seedFor(100, 0);
        // two that TELL alike, by TESTS that slip: 1000 10 0, 10000 100 1 0
        BehindWall x = Sentences.runs(0, 0, 1, 1, 0, 0, 10, 1);
        x.rule(0, 1);
        x.build();
        int[][] due = {{10, 100, 0}, {0, 1, 0}, {1000, 10000, 1}, {10, 100, 1}};
        for (int[] d : due) {
            x.seed(slips);
            x.probe(1, 0);
            s.due("ODDS", x.told(0, 4), d[0]);
            s.due("ODDS", x.told(1, 4), d[1]);
            s.due("FORGOT", x.house(6), d[2]);
        }
        x.set(0, 2, 99);
        for (int i = 0; i < 2; i++) {
            x.seed(slips);
            x.probe(1, 0);
        }
        s.due("by LIKELY as it is then", x.told(0, 4), 99000);
        s.due("FORGOT", x.house(6), 2);
        // by a HOLE: TRUE has 0 left, the other is ruled out
        BehindWall y = trueAndOther(1, 1);
        y.rule(0, 1);
        for (int i = 0; i < 2; i++) {
            y.seed(slips);
            y.probe(1, 0);
        }
        s.due("TRUE has none left", y.told(0, 4), 0);
        s.due("the other has", y.told(1, 4), 980);
        s.due("not forgotten", y.house(6), 0);
        y.probe(3, 0);
        s.due("forgotten by a HOLE", y.house(6), 1);
        s.due("ODDS", y.told(0, 4), 1000);
        s.due("ODDS", y.told(1, 4), 1000);
    }

    private void drilling() {
        s.term(2, "DRILLING at a CELL so deep: HOLES 1 more; if TRUE PASSES it, and is no more DEEP, HITS 1 more, "
            + "COST more by its HURT.");
        BehindWall x = Sentences.runs(1, 8, 1, 5);
        x.build();
        int[][] calls = {{8, 4, 0, 0}, {8, 5, 10, 1}, {8, 6, 10, 1}, {2, 9, 0, 0}, {32, 9, 10, 1}};
        int cost = 0;
        int hits = 0;
        for (int i = 0; i < calls.length; i++) {
            s.due("at " + calls[i][0] + " so deep " + calls[i][1], x.drill(calls[i][0], calls[i][1]), calls[i][2]);
            cost += calls[i][2];
            hits += calls[i][3];
            s.due("HOLES", x.house(2), i + 1);
            s.due("HITS", x.house(1), hits);
            s.due("COST", x.house(0), cost);
        }
        Dues.text(x, "hurt 0");
        s.due("what doesn't hurt", x.drill(8, 9), 0);
        s.due("is a HIT", x.house(1), hits + 1);
        s.due("COST", x.house(0), cost);
        s.due("no TEST", x.house(3), 0);
    }

    private void stepWithoutRuns() {
        s.term(2, "A STEP: without RUNS nothing");
        BehindWall x = new BehindWall();
        s.due("steps", x.steps(3), 0);
        s.due("no draw", x.count(7), 1);
        s.due("not BUILT", x.house(7), 0);
        s.due("no TEST", x.house(3), 0);
    }

    private void stepBuilds() {
        s.term(2, "if nothing is BUILT, a BUILD");
        BehindWall x = Sentences.runs(0, 0, 1, 1, 0, 1, 1, 1);
        x.seed(Sentences.seedFor(2, 1));
        x.steps(1);
        s.due("a draw", x.count(7), Sentences.next(Sentences.seedFor(2, 1)));
        s.due("BUILT", x.house(7), 1);
        s.due("by LIKELY", hitAmong(x, 0, 1), 1);
        s.due("no TEST", x.house(3), 0);
    }

    private void stepTests() {
        s.term(2, "else a draw: its rest by 4 is a sort; one more: its rest by 36 is a CELL; a TEST of that.");
        int sorts = 0;
        for (int seed = 0; seed < 40; seed++) {
            BehindWall x = Whole.rich();
            x.seed(seed);
            int second = Sentences.next(seed);
            int sort = Sentences.drawn(seed) % 4;
            int cell = Sentences.drawn(second) % 36;
            x.steps(1);
            BehindWall y = Whole.rich();
            y.seed(Sentences.next(second));
            y.probe(sort, cell);
            s.due("z", x.count(7), y.count(7));
            for (int run = 0; run < 6; run++) {
                s.due("ODDS", x.told(run, 4), y.told(run, 4));
            }
            for (int what = 3; what < 7; what++) {
                s.due("house " + what, x.house(what), y.house(what));
            }
            sorts |= 1 << sort;
        }
        s.due("each sort came", sorts, 15);
        BehindWall x = Whole.rich();
        x.rule(0, 0);
        int tests = x.house(3);
        s.due("no SLIPS without SLIP", x.steps(10), 0);
        s.due("but TESTS", x.house(3), tests + 10);
    }

    private void stepCounts() {
        s.term(2, "THE STEP is 1 more.");
        BehindWall x = new BehindWall();
        x.steps(1);
        s.due("without RUNS", x.count(1), 1);
        x.run(0, 0, 1, 1);
        x.steps(1);
        s.due("by a BUILD", x.count(1), 2);
        x.steps(1);
        s.due("by a TEST", x.count(1), 3);
        x.build();
        x.probe(0, 0);
        x.drill(0, 1);
        s.due("by nothing else", x.count(1), 3);
    }

    private void zAtFirst() {
        s.term(2, "z is told (1 at first).");
        BehindWall x = new BehindWall();
        s.due("count", x.count(7), 1);
        s.due("seed", x.seed(1), 1);
    }

    private void draws() {
        s.term(2, "A draw: z becomes z * 1103515245 + 12345 (an int); it gives z >>> 8.");
        int[] from = {0, 1, -1, HIGH, LOW, 3};
        int[] to = {12345, 1103527590, -1103502900, 1043980748, -2147471303, -984409216};
        for (int i = 0; i < from.length; i++) {
            BehindWall x = Sentences.runs(0, 0, 1, 1);
            x.seed(from[i]);
            x.build();
            s.due("z from " + from[i], x.count(7), to[i]);
        }
        int below0 = 0;
        for (int seed = 0; seed < 60; seed++) {
            BehindWall x = new BehindWall();
            x.seed(seed);
            x.deal(1);
            below0 += Sentences.next(seed) < 0 ? 1 : 0;
            s.due("KIND by what the draw gives, seed " + seed, x.told(0, 0), Sentences.drawn(seed) % 6);
        }
        s.dueTrue("z was below 0, too", below0 > 10);
    }

    private void drawnRuns() {
        s.term(2, "RUNS that are drawn: KIND the rest of a draw by 6, CELL that of one more by 36, "
            + "LIKELY 1 and that of one more by 40, DEEP 1 and that of one more by 9.");
        int[] by = {6, 36, 40, 9};
        int[] least = {HIGH, HIGH, HIGH, HIGH};
        int[] most = new int[4];
        for (int seed = 0; seed < 300; seed++) {
            BehindWall x = new BehindWall();
            x.seed(seed);
            s.due("deal", x.deal(1), 1);
            int z = seed;
            for (int what = 0; what < 4; what++) {
                s.due("what " + what + " seed " + seed, x.told(0, what), Sentences.drawn(z) % by[what] + what / 2);
                least[what] = Math.min(least[what], x.told(0, what));
                most[what] = Math.max(most[what], x.told(0, what));
                z = Sentences.next(z);
            }
            s.due("four draws", x.count(7), z);
        }
        int[] dueLeast = {0, 0, 1, 1};
        int[] dueMost = {5, 35, 40, 9};
        for (int what = 0; what < 4; what++) {
            s.due("the least of what " + what, least[what], dueLeast[what]);
            s.due("the greatest of what " + what, most[what], dueMost[what]);
        }
    }
}

/** Promises 34 to 47: sheets, slots, rows, images. */
public final class SheetsAndRowsTest {
    private static final int BAD = BehindWall.BAD, NO = BehindWall.NO, FULL = BehindWall.FULL, NONE = BehindWall.NONE,
        NOTHING = BehindWall.NOTHING, KIND = BehindWall.KIND, INDEX = BehindWall.INDEX, SIZE = BehindWall.SIZE;
    private static final int LOW = Integer.MIN_VALUE, HIGH = Integer.MAX_VALUE;
    private final Dues d = new Dues();

    public static void main(String[] args) {
        SheetsAndRowsTest t = new SheetsAndRowsTest();
        t.sheet();
        t.mark();
        t.pour();
        t.reads();
        t.copy();
        t.copyWithin();
        t.lay();
        t.ask();
        t.item();
        t.rest();
        t.tell();
        t.check();
        t.checkWithoutRuns();
        t.keepAndBack();
        t.backLeavesSome();
        t.count();
        t.d.end("SheetsAndRowsTest");
    }

    private static void fill(BehindWall x, int sheet, int sort, int... places) {
        x.sheet(sheet, sort, places.length);
        for (int i = 0; i < places.length; i++) {
            x.mark(sheet, i, places[i]);
        }
    }

    /** What stands at a place of a SHEET, by way of SLOT 4. */
    private static int at(BehindWall x, int sheet, int place) {
        x.lay(4, 2, sheet);
        return x.item(4, place);
    }

    private void sheet() {
        BehindWall x = new BehindWall();
        d.due("34 shorts", x.sheet(0, 0, 24), 24);
        d.due("34 floats", x.sheet(3, 1, 0), 0);
        d.due("34 no places", x.mark(3, 0, 0), INDEX);
        x.mark(0, 23, 5);
        d.due("34 anew", x.sheet(0, 1, 24), 24);
        d.due("34 all 0", at(x, 0, 23), 0);
        int[][] bad = {{-1, 0, 1}, {4, 0, 1}, {0, -2, 1}, {0, 2, 1}, {0, 0, 25}, {0, 1, HIGH}, {4, 0, -1}, {0, 2, -1},
            {4, -1, 0}, {LOW, LOW, LOW}};
        for (int[] b : bad) {
            d.due("34 bad", x.sheet(b[0], b[1], b[2]), BAD);
        }
        d.due("34 size", x.sheet(0, 0, -1), SIZE);
        d.due("34 size", x.sheet(0, 1, LOW), SIZE);
        d.due("34 stays", at(x, 0, 23), 0);
        d.due("34 missing", x.sheet(0, -1, 99), 0);
        d.due("34 it is", x.mark(0, 0, 0), NOTHING);
        d.due("34 missing again", x.sheet(0, -1, LOW), 0);
    }

    private void mark() {
        BehindWall x = new BehindWall();
        d.due("35 bad ahead of nothing", x.mark(4, 0, 0), BAD);
        d.due("35 bad", x.mark(-1, 0, 0), BAD);
        d.due("35 nothing", x.mark(0, -1, NONE), NOTHING);
        x.sheet(0, 0, 3);
        x.sheet(1, 1, 3);
        d.due("35 index ahead of kind", x.mark(0, 3, NONE), INDEX);
        d.due("35 index", x.mark(0, -1, 0), INDEX);
        d.due("35 index ahead of bad", x.mark(1, 3, 100000), INDEX);
        d.due("35 kind", x.mark(0, 0, NONE), KIND);
        int[][] shorts = {{32767, 32767}, {32768, -32768}, {65535, -1}, {65536, 0}, {LOW, 0}, {HIGH, -1}, {-5, -5},
            {100000, -31072}};
        for (int[] s : shorts) {
            d.due("35 short", x.mark(0, 1, s[0]), 1);
            d.due("35 its lowest 16 bits", at(x, 0, 1), s[1]);
        }
        for (int v : new int[] {99999, -99999, 0, 7}) {
            d.due("35 float", x.mark(1, 2, v), 1);
            d.due("35 float", at(x, 1, 2), v);
        }
        for (int v : new int[] {100000, -100000, LOW, HIGH}) {
            d.due("35 bad float", x.mark(1, 2, v), BAD);
            d.due("35 stays", at(x, 1, 2), 7);
        }
        d.due("35 no number", x.mark(1, 2, NONE), 1);
        d.due("35 no number", at(x, 1, 2), KIND);
        d.due("35 others stay", at(x, 1, 1), 0);
    }

    private void pour() {
        BehindWall x = new BehindWall();
        d.due("36 bad", x.pour(4), BAD);
        d.due("36 bad", x.pour(-1), BAD);
        d.due("36 nothing", x.pour(0), NOTHING);
        fill(x, 0, 1, 5, -7, 500, NONE, 20, 3);
        d.due("36 no runs", x.pour(0), 0);
        for (int i = 0; i < 7; i++) {
            x.run(0, i, 20, 1);
        }
        d.due("36 pour", x.pour(0), 4);
        int[] due = {5, 1, 99, 20, 20, 3, 20};
        for (int i = 0; i < 7; i++) {
            d.due("36 likely", x.told(i, 2), due[i]);
            d.due("36 odds stay", x.told(i, 4), 20000);
        }
        d.due("36 again", x.pour(0), 0);
        fill(x, 1, 0, 99, 99, 99, 99, 99, 99, 99, 99, 99);
        d.due("36 more places than runs", x.pour(1), 6);
    }

    private void reads() {
        BehindWall x = new BehindWall();
        d.due("37 bad", x.reads(4), BAD);
        d.due("37 bad", x.reads(LOW), BAD);
        d.due("37 nothing", x.reads(0), NOTHING);
        x.run(0, 0, 1, 4);
        x.run(0, 0, 1, 6);
        fill(x, 0, 1, 4, NONE, NONE);
        d.due("37 none", x.reads(0), NONE);
        x.mark(0, 1, 6);
        d.due("37 none", x.reads(0), NONE);
        x.mark(0, 2, 0);
        d.due("37 no run", x.reads(0), 2);
        x.mark(0, 1, 5);
        d.due("37 the first", x.reads(0), 1);
        x.mark(0, 0, NONE);
        d.due("37 of numbers alone", x.reads(0), 1);
        x.mark(0, 0, 5);
        d.due("37 at 0", x.reads(0), 0);
        x.sheet(0, 0, 0);
        d.due("37 no places", x.reads(0), NONE);
    }

    private void copy() {
        BehindWall x = new BehindWall();
        d.due("38 bad ahead of nothing", x.copy(4, 0, 0, 0, 0), BAD);
        d.due("38 bad ahead of nothing", x.copy(0, 0, -1, 0, 0), BAD);
        d.due("38 nothing", x.copy(0, 0, 0, 0, 0), NOTHING);
        fill(x, 0, 0, 1, 2, 3, 4);
        d.due("38 nothing", x.copy(0, 0, 1, 0, 9), NOTHING);
        d.due("38 nothing", x.copy(1, 0, 0, 0, 9), NOTHING);
        x.sheet(1, 1, 4);
        d.due("38 kind ahead of index", x.copy(0, 9, 1, 9, 9), KIND);
        x.sheet(1, 0, 3);
        d.due("38 copy", x.copy(0, 1, 1, 0, 3), 3);
        for (int i = 0; i < 3; i++) {
            d.due("38 came", at(x, 1, i), i + 2);
        }
        d.due("38 none", x.copy(0, 4, 1, 3, 0), 0);
        int[][] beyond = {{0, 0, 4}, {2, 0, 3}, {-1, 0, 1}, {0, -1, 1}, {0, 3, 1}, {5, 0, 0}, {0, 4, 0}, {0, 0, -1},
            {0, 0, HIGH}, {HIGH, 0, 1}, {0, HIGH, 1}, {HIGH, HIGH, HIGH}, {LOW, LOW, LOW}, {0, 0, LOW}, {1, 1, HIGH}};
        for (int[] b : beyond) {
            d.due("38 index", x.copy(0, b[0], 1, b[1], b[2]), INDEX);
        }
        for (int i = 0; i < 3; i++) {
            d.due("38 stays", at(x, 1, i), i + 2);
        }
        fill(x, 2, 1, NONE, 9);
        fill(x, 3, 1, 1, 1);
        d.due("38 floats", x.copy(2, 0, 3, 0, 2), 2);
        d.due("38 no number comes too", at(x, 3, 0), KIND);
        d.due("38 floats", at(x, 3, 1), 9);
    }

    private void copyWithin() {
        BehindWall x = new BehindWall();
        fill(x, 0, 0, 1, 2, 3, 4, 5);
        x.copy(0, 0, 0, 1, 4);
        int[] up = {1, 1, 2, 3, 4};
        for (int i = 0; i < 5; i++) {
            d.due("38 as they were", at(x, 0, i), up[i]);
        }
        x.copy(0, 2, 0, 0, 3);
        int[] down = {2, 3, 4, 3, 4};
        for (int i = 0; i < 5; i++) {
            d.due("38 as they were", at(x, 0, i), down[i]);
        }
    }

    private void lay() {
        BehindWall x = new BehindWall();
        int[][] bad = {{-1, 0, 0}, {5, 0, 0}, {0, -1, 0}, {0, 4, 0}, {0, 1, 0}, {0, 1, -1}, {0, 2, -1}, {0, 2, 4},
            {5, 2, 0}, {LOW, HIGH, LOW}};
        for (int[] b : bad) {
            d.due("39 bad", x.lay(b[0], b[1], b[2]), BAD);
        }
        d.due("39 nothing", x.lay(0, 2, 3), NOTHING);
        d.due("39 number", x.lay(0, 3, LOW), 0);
        x.run(0, 0, 1, 1);
        d.due("39 run", x.lay(0, 1, 0), 3);
        x.sheet(3, 1, 2);
        d.due("39 sheet", x.lay(0, 2, 3), 1);
        d.due("39 refused, it stays", x.lay(0, 2, 2), NOTHING);
        d.due("39 nothing, whatever k", x.lay(0, 0, LOW), 2);
        d.due("39 nothing", x.lay(0, 0, HIGH), 0);
        d.due("39 the last slot", x.lay(4, 3, 1), 0);
    }

    private void ask() {
        BehindWall x = new BehindWall();
        d.due("40 nothing", x.ask(0, 0), NOTHING);
        for (int[] b : new int[][] {{-1, 0}, {5, 0}, {0, -1}, {0, 6}, {HIGH, LOW}}) {
            d.due("40 bad ahead of nothing", x.ask(b[0], b[1]), BAD);
        }
        x.lay(0, 3, 7);
        d.due("40 a number", x.ask(0, 0), KIND);
        x.sheet(0, 0, 1);
        x.lay(0, 2, 0);
        d.due("40 a sheet", x.ask(0, 0), KIND);
        int[] worth = {3, 12, 96, 24, 91, 2};
        int[] under = {1, 1 | 2, 1 | 4, 1 | 2 | 8, 1 | 4 | 16, 1 | 32};
        for (int kind = 0; kind < 6; kind++) {
            x.run(kind, 0, 1, 3);
            x.lay(1, 1, kind);
            for (int k = 0; k < 6; k++) {
                d.due("40 ask " + kind + " " + k, x.ask(1, k), (under[kind] >> k & 1) == 1 ? worth[kind] : KIND);
            }
        }
        x.turns(5, 1);
        x.set(5, 3, 9);
        d.due("40 as it was, for good", x.ask(1, 5), 2);
        d.due("40 not as it is", x.ask(1, 1), KIND);
    }

    private void item() {
        BehindWall x = new BehindWall();
        d.due("41 bad", x.item(5, 0), BAD);
        d.due("41 bad", x.item(-1, 0), BAD);
        d.due("41 nothing", x.item(0, -1), NOTHING);
        x.lay(0, 3, 1);
        d.due("41 kind ahead of index", x.item(0, -1), KIND);
        x.run(0, 0, 1, 1);
        x.lay(0, 1, 0);
        d.due("41 kind", x.item(0, 0), KIND);
        fill(x, 0, 1, 8, NONE, -99999);
        x.lay(0, 2, 0);
        d.due("41 item", x.item(0, 0), 8);
        d.due("41 no number", x.item(0, 1), KIND);
        d.due("41 item", x.item(0, 2), -99999);
        d.due("41 index", x.item(0, 3), INDEX);
        d.due("41 index", x.item(0, -1), INDEX);
        d.due("41 index", x.item(0, HIGH), INDEX);
        x.mark(0, 0, 9);
        x.sheet(0, -1, 0);
        d.due("41 a row of its own", x.item(0, 0), 8);
        fill(x, 0, 0, 1);
        x.lay(1, 2, 0);
        d.due("41 each slot by itself", x.item(0, 2), -99999);
        d.due("41 each slot by itself", x.item(1, 2), INDEX);
    }

    private void rest() {
        BehindWall x = new BehindWall();
        d.due("42 bad", x.rest(5, 0), BAD);
        d.due("42 bad", x.rest(-1, 1), BAD);
        d.due("42 nothing ahead of no", x.rest(0, 0), NOTHING);
        x.sheet(0, 0, 1);
        x.lay(0, 2, 0);
        d.due("42 kind ahead of no", x.rest(0, 0), KIND);
        x.run(0, 0, 1, 1);
        x.lay(0, 1, 0);
        d.due("42 kind", x.rest(0, 1), KIND);
        x.lay(0, 3, -17);
        d.due("42 no", x.rest(0, 0), NO);
        d.due("42 rest", x.rest(0, 5), -2);
        d.due("42 rest", x.rest(0, -5), -2);
        x.lay(0, 3, 17);
        d.due("42 rest", x.rest(0, -5), 2);
        x.lay(0, 3, LOW);
        d.due("42 rest by -1", x.rest(0, -1), 0);
        d.due("42 rest", x.rest(0, HIGH), -1);
    }

    private void tell() {
        BehindWall x = new BehindWall();
        for (int i = 1; i <= 60; i++) {
            d.due("43 tell", x.tell(i), i);
        }
        d.due("43 full", x.tell(0), FULL);
        d.due("43 sixty", x.count(5), 60);
    }

    private void check() {
        BehindWall x = new BehindWall();
        x.tell(1);
        d.due("44 no image", x.check(1), NO);
        d.due("44 none wait", x.count(5), 0);
        x.tell(1);
        d.due("44 bad ahead of no", x.check(0), BAD);
        d.due("44 none wait", x.count(5), 0);
        d.due("44 bad", x.check(31), BAD);
        x.seed(5);
        x.deal(4);
        x.steps(2);
        x.keep();
        int[] due = new int[60];
        for (int i = 0; i < 30; i++) {
            due[2 * i] = x.behind(i + 1, 0);
            due[2 * i + 1] = x.behind(i + 1, 2);
        }
        x.steps(7);
        x.rule(0, 33);
        int z = x.count(7);
        for (int n : new int[] {1, 2, 3, 17, 30}) {
            tellAll(x, due, 2 * n);
            d.due("44 told of " + n, x.check(n), 0);
            d.due("44 none wait", x.count(5), 0);
            tellAll(x, due, 2 * n - 1);
            d.due("44 one is missing", x.check(n), 2 * n);
            int[] wrong = due.clone();
            wrong[n] += 1;
            tellAll(x, wrong, 2 * n);
            d.due("44 one is not", x.check(n), 1 + n);
        }
        tellAll(x, due, 6);
        d.due("44 too many", x.check(2), 5);
        d.due("44 none", x.check(30), 1);
        d.due("44 nothing changes", x.count(7), z);
    }

    private static void tellAll(BehindWall x, int[] numbers, int many) {
        for (int i = 0; i < many; i++) {
            x.tell(numbers[i]);
        }
    }

    private void checkWithoutRuns() {
        BehindWall x = new BehindWall();
        x.keep();
        x.deal(3);
        tellAll(x, new int[] {0, -1, 0, -1}, 4);
        d.due("44 without runs", x.check(2), 0);
        for (int i = 0; i < 100; i++) {
            x.steps(100);
        }
        x.back();
        for (int i = 0; i < 99; i++) {
            x.steps(100);
        }
        x.steps(97);
        x.keep();
        tellAll(x, new int[] {0, -1, 0, -1}, 4);
        d.due("44 fewer, for the step", x.check(9), 0);
        tellAll(x, new int[] {0, -1, 0, -1, 0, -1}, 6);
        d.due("44 fewer, for the step", x.check(3), 5);
    }

    private void keepAndBack() {
        BehindWall x = new BehindWall();
        d.due("46 no image", x.back(), NO);
        d.due("45 none", x.keep(), 0);
        d.due("46 none", x.back(), 0);
        x.deal(4);
        x.rule(0, 20);
        x.rule(1, 0);
        Dues.text(x, "fee 5");
        x.build();
        x.steps(9);
        for (int c = 0; c < 36; c++) {
            x.drill(c, 9);
        }
        d.due("45 keep", x.keep(), 4);
        String was = all(x);
        for (int times = 0; times < 3; times++) {
            x.deal(3);
            x.rule(0, 7);
            x.rule(1, 1);
            x.turns(0, (x.told(0, 0) + 1) % 6);
            x.set(1, 1, 35 - x.told(1, 1));
            x.set(2, 2, 99);
            x.set(2, 3, 1 + x.told(2, 3) % 9);
            Dues.text(x, "fee 6");
            Dues.text(x, "hurt 77");
            x.build();
            x.steps(11);
            x.drill(0, 9);
            d.dueTrue("46 it is otherwise", !all(x).equals(was));
            d.due("46 back", x.back(), 4);
            d.dueTrue("46 all is as it was", all(x).equals(was));
        }
        d.due("46 new runs again", x.run(0, 0, 1, 1), 4);
        d.due("46 new texts again", Dues.text(x, "fee 9"), 1);
        d.due("46 they count", x.fee(), 9);
        x.back();
        d.due("46 back", x.fee(), 5);
        d.due("46 later texts are gone", x.textTold(1, 0), BAD);
        d.due("46 later runs are gone", x.told(4, 0), BAD);
        x.deal(2);
        d.due("45 another image", x.keep(), 6);
        x.deal(1);
        d.due("46 the last one", x.back(), 6);
    }

    private static String all(BehindWall x) {
        StringBuilder b = new StringBuilder();
        for (int what : new int[] {0, 1, 2, 3, 4, 7}) {
            b.append(x.count(what)).append(' ');
        }
        for (int what = 0; what < 10; what++) {
            b.append(x.house(what)).append(' ');
        }
        for (int run = 0; run < 10; run++) {
            for (int what = 0; what < 8; what++) {
                b.append(x.told(run, what)).append(' ');
            }
            b.append(x.fine(run)).append(' ');
        }
        for (int key = 0; key < 3; key++) {
            b.append(x.why(key)).append(' ');
        }
        return b.append(x.fee()).append(' ').append(x.behind(50, 0)).toString();
    }

    private void backLeavesSome() {
        BehindWall x = new BehindWall();
        x.run(5, 0, 1, 1);
        x.sheet(0, 0, 2);
        x.keep();
        x.mark(0, 1, 6);
        x.sheet(1, 1, 3);
        x.lay(0, 3, 8);
        x.lay(1, 1, 0);
        x.tell(4);
        x.feed(1, 2, 3);
        x.back();
        d.due("46 sheets stay", at(x, 0, 1), 6);
        d.due("46 sheets stay", x.mark(1, 2, 0), 1);
        d.due("46 slots stay", x.rest(0, 9), 8);
        d.due("46 slots stay", x.ask(1, 5), 2);
        d.due("46 numbers stay", x.count(5), 1);
        d.due("46 the tape stays", x.count(6), 12);
    }

    private void count() {
        BehindWall x = new BehindWall();
        for (int b : new int[] {-1, 8, LOW, HIGH}) {
            d.due("47 bad", x.count(b), BAD);
        }
        x.deal(2);
        x.steps(3);
        x.rule(0, 4);
        x.rule(1, 0);
        Dues.text(x, "fee c");
        x.tell(1);
        x.tell(1);
        x.feed(0, 0, 0);
        x.seed(99);
        int[] due = {2, 3, 4, 0, 1, 2, 12, 99};
        for (int i = 0; i < 8; i++) {
            d.due("47 count " + i, x.count(i), due[i]);
        }
    }
}

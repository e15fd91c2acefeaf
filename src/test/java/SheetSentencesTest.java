import java.util.function.Supplier;

/** The "Terms", part 5: SHEETS, SLOTS, IMAGES, sentence by sentence. */
public final class SheetSentencesTest {
    private static final int BAD = BehindWall.BAD, NO = BehindWall.NO, NONE = BehindWall.NONE,
        NOTHING = BehindWall.NOTHING, KIND = BehindWall.KIND, INDEX = BehindWall.INDEX, SIZE = BehindWall.SIZE;
    private static final int LOW = Integer.MIN_VALUE, HIGH = Integer.MAX_VALUE;
    private final Sentences s;

    private SheetSentencesTest(Sentences s) {
        this.s = s;
    }

    public static void main(String[] args) throws Exception {
        SheetSentencesTest t = new SheetSentencesTest(new Sentences());
        t.fourSheets();
        t.sortsOfSheets();
        t.places();
        t.missingAtFirst();
        t.noNumber();
        t.fiveSlots();
        t.nothingAtFirst();
        t.aRunForGood();
        t.aRowOfItsOwn();
        t.aNumber();
        t.findingNothing();
        t.findingIndex();
        t.findingSize();
        t.findingKind();
        t.imageKeeps();
        t.imageKeepsNot();
        t.againAndAgain();
        t.stepsTold();
        t.s.end("SheetSentencesTest", 1, 0);
    }

    /** RUNS, and SHEETS 0 .. 3 with places that are CELLS. */
    private static BehindWall withFour() {
        BehindWall x = Whole.rich();
        for (int sheet = 0; sheet < 4; sheet++) {
            Sentences.fill(x, sheet, 0, 1, 20, 14);
        }
        return x;
    }

    private void fourSheets() {
        s.term(5, "SHEETS 0 .. 3");
        Supplier<BehindWall> four = SheetSentencesTest::withFour;
        s.onlyWithin("sheet", four, 0, 3, (x, k) -> x.sheet(k, 0, 5));
        s.onlyWithin("sheet, MISSING", four, 0, 3, (x, k) -> x.sheet(k, -1, 0));
        s.onlyWithin("mark", four, 0, 3, (x, k) -> x.mark(k, 2, 5));
        s.onlyWithin("pour", four, 0, 3, (x, k) -> x.pour(k));
        s.onlyWithin("reads", four, 0, 3, (x, k) -> x.reads(k));
        s.onlyWithin("copy from", four, 0, 3, (x, k) -> x.copy(k, 0, 1, 1, 2));
        s.onlyWithin("copy to", four, 0, 3, (x, k) -> x.copy(1, 0, k, 1, 2));
        s.onlyWithin("lay", four, 0, 3, (x, k) -> x.lay(0, 2, k));
        s.onlyWithin("where", four, 0, 3, (x, k) -> x.where(k, 9, 0));
        s.onlyWithin("learn", four, 0, 3, (x, k) -> x.learn(3, 14, k, 9));
        s.onlyWithin("worthiest", four, 0, 3, (x, k) -> x.worthiest(k, 9, 0));
        s.onlyWithin("fits", four, 0, 3, (x, k) -> x.fits(k, 0));
        BehindWall x = new BehindWall();
        for (int sheet = 0; sheet < 4; sheet++) {
            Sentences.fill(x, sheet, sheet % 2, 10 * sheet, 10 * sheet + 1);
        }
        for (int sheet = 0; sheet < 4; sheet++) {
            s.due("each by itself", Sentences.at(x, sheet, 1), 10 * sheet + 1);
        }
    }

    private void sortsOfSheets() {
        s.term(5, "rows of shorts (sort 0) or floats (1; whole numbers)");
        BehindWall x = new BehindWall();
        x.sheet(0, 0, 1);
        x.sheet(1, 1, 1);
        int[] shorts = {32767, -32768, 0, -1};
        for (int v : shorts) {
            x.mark(0, 0, v);
            s.due("a short", Sentences.at(x, 0, 0), v);
        }
        int[] floats = {99999, -99999, 32768, -32769, 0, -1};
        for (int v : floats) {
            x.mark(1, 0, v);
            s.due("a float", Sentences.at(x, 1, 0), v);
        }
        s.onlyWithin("sort", Whole::rich, -1, 1, (y, v) -> y.sheet(0, v, 3));
    }

    private void places() {
        s.term(5, "with 0 to 24 places");
        for (int sort = 0; sort < 2; sort++) {
            BehindWall x = new BehindWall();
            s.due("0", x.sheet(0, sort, 0), 0);
            s.due("no place", x.mark(0, 0, 1), INDEX);
            s.due("24", x.sheet(0, sort, 24), 24);
            s.due("the first", x.mark(0, 0, 1), 1);
            s.due("the last", x.mark(0, 23, 1), 1);
            s.due("none behind it", x.mark(0, 24, 1), INDEX);
            int rows = sort;
            s.refused("25", Whole::rich, y -> y.sheet(0, rows, 25), BAD);
            s.refused("-1", Whole::rich, y -> y.sheet(0, rows, -1), SIZE);
        }
    }

    private void missingAtFirst() {
        s.term(5, "or MISSING (at first)");
        BehindWall x = Sentences.runs(0, 0, 1, 1);
        for (int sheet = 0; sheet < 4; sheet++) {
            s.due("mark", x.mark(sheet, 0, 0), NOTHING);
            s.due("reads", x.reads(sheet), NOTHING);
            s.due("lay", x.lay(0, 2, sheet), NOTHING);
        }
        x.sheet(2, 0, 0);
        s.due("no places is not MISSING", x.reads(2), NONE);
        s.due("no places is not MISSING", x.lay(0, 2, 2), 0);
    }

    private void noNumber() {
        s.term(5, "A place of floats may be NO NUMBER.");
        BehindWall x = new BehindWall();
        x.sheet(0, 1, 2);
        s.due("mark", x.mark(0, 1, NONE), 1);
        s.due("it is", Sentences.at(x, 0, 1), KIND);
        s.due("the other is not", Sentences.at(x, 0, 0), 0);
        s.due("a number again", x.mark(0, 1, 7), 1);
        s.due("it is", Sentences.at(x, 0, 1), 7);
        x.sheet(1, 0, 2);
        s.due("not of shorts", x.mark(1, 1, NONE), KIND);
        s.due("it stays", Sentences.at(x, 1, 1), 0);
    }

    private void fiveSlots() {
        s.term(5, "SLOTS 0 .. 4");
        Supplier<BehindWall> made = () -> {
            BehindWall x = Whole.rich();
            for (int slot = 0; slot < 5; slot++) {
                x.lay(slot, 3, 100 + slot);
            }
            return x;
        };
        s.onlyWithin("rest", made, 0, 4, (x, slot) -> x.rest(slot, 7));
        s.onlyWithin("lay", made, 0, 4, (x, slot) -> x.lay(slot, 3, 7));
        Supplier<BehindWall> rows = () -> {
            BehindWall x = Whole.rich();
            for (int slot = 0; slot < 5; slot++) {
                x.lay(slot, 2, 0);
            }
            return x;
        };
        s.onlyWithin("item", rows, 0, 4, (x, slot) -> x.item(slot, 3));
        Supplier<BehindWall> runs = () -> {
            BehindWall x = Whole.rich();
            for (int slot = 0; slot < 5; slot++) {
                x.lay(slot, 1, slot);
            }
            return x;
        };
        s.onlyWithin("ask", runs, 0, 4, (x, slot) -> x.ask(slot, 0));
        BehindWall x = made.get();
        for (int slot = 0; slot < 5; slot++) {
            s.due("each by itself", x.rest(slot, 1000), 100 + slot);
        }
    }

    private void nothingAtFirst() {
        s.term(5, "each hold nothing (at first)");
        BehindWall x = new BehindWall();
        for (int slot = 0; slot < 5; slot++) {
            s.due("ask", x.ask(slot, 0), NOTHING);
            s.due("item", x.item(slot, 0), NOTHING);
            s.due("rest", x.rest(slot, 1), NOTHING);
            s.due("lay", x.lay(slot, 0, 0), 0);
        }
    }

    private void aRunForGood() {
        s.term(5, "a RUN (as it is then, for good)");
        BehindWall x = Sentences.runs(2, 0, 1, 4, 0, 0, 1, 1);
        x.keep();
        x.run(3, 0, 1, 5);
        x.lay(0, 1, 0);
        x.lay(1, 1, 2);
        x.set(0, 3, 9);
        s.due("WORTH by DEEP as it was", x.ask(0, 2), 95);
        x.turns(0, 5);
        s.due("of its KIND as it was", x.ask(0, 2), 95);
        s.due("not of the new one", x.ask(0, 5), KIND);
        x.back();
        s.due("it is there when the RUN is gone", x.ask(1, 3), 28);
        x.lay(0, 1, 1);
        s.due("another one", x.ask(0, 0), 1);
        s.due("the other SLOT stays", x.ask(1, 1), 28);
    }

    private void aRowOfItsOwn() {
        s.term(5, "a SHEET (a row of its own, as it was then)");
        BehindWall x = new BehindWall();
        Sentences.fill(x, 0, 1, 8, NONE, -99999);
        x.lay(0, 2, 0);
        x.lay(1, 2, 0);
        x.mark(0, 0, 9);
        x.mark(0, 1, 9);
        s.due("as it was", x.item(0, 0), 8);
        s.due("NO NUMBER as it was", x.item(0, 1), KIND);
        x.sheet(0, 0, 24);
        s.due("as many places as it had", x.item(0, 3), INDEX);
        s.due("its last", x.item(0, 2), -99999);
        x.sheet(0, -1, 0);
        s.due("it is there when the SHEET is MISSING", x.item(0, 0), 8);
        Sentences.fill(x, 0, 0, 5);
        x.lay(0, 2, 0);
        s.due("the new one", x.item(0, 0), 5);
        s.due("the new one has one place", x.item(0, 1), INDEX);
        s.due("the other SLOT stays", x.item(1, 0), 8);
    }

    private void aNumber() {
        s.term(5, "or a number");
        BehindWall x = new BehindWall();
        for (int v : new int[] {0, 1, -1, LOW, HIGH, NONE, BAD}) {
            x.lay(2, 3, v);
            s.due("the number " + v, x.rest(2, LOW), v == LOW ? 0 : v);
        }
        s.due("it is one", x.lay(2, 0, 0), 3);
    }

    private void findingNothing() {
        s.term(5, "NOTHING: a SHEET is MISSING, a SLOT holds nothing");
        // SHEET 2 is MISSING, SLOT 4 holds nothing
        Sentences.Asked[] asked = {x -> x.where(2, 1, 0), x -> x.learn(0, 0, 2, 1), x -> x.worthiest(2, 1, 0),
            x -> x.fits(2, 0), x -> x.mark(2, 0, 0), x -> x.pour(2), x -> x.reads(2), x -> x.copy(2, 0, 0, 0, 1),
            x -> x.copy(0, 0, 2, 0, 1), x -> x.lay(0, 2, 2), x -> x.lay(4, 2, 2), x -> x.ask(4, 0), x -> x.item(4, 0),
            x -> x.rest(4, 1)};
        for (int i = 0; i < asked.length; i++) {
            s.refused("call " + i, Whole::rich, asked[i], NOTHING);
        }
    }

    private void findingIndex() {
        s.term(5, "INDEX: there is no such place");
        // SHEET 0 has 4 places, SHEET 1 has 3, SHEET 3 none; SLOTS 1 and 2 hold SHEETS 0 and 1
        for (int place : new int[] {-1, 4, LOW, HIGH}) {
            s.refused("mark at " + place, Whole::rich, x -> x.mark(0, place, 1), INDEX);
            s.refused("item at " + place, Whole::rich, x -> x.item(1, place), INDEX);
            s.refused("copy from " + place, Whole::rich, x -> x.copy(0, place, 0, 0, 1), INDEX);
            s.refused("copy to " + place, Whole::rich, x -> x.copy(0, 0, 0, place, 1), INDEX);
        }
        s.refused("mark without places", Whole::rich, x -> x.mark(3, 0, 1), INDEX);
        s.refused("mark of floats", Whole::rich, x -> x.mark(1, 3, 1), INDEX);
        s.refused("item of floats", Whole::rich, x -> x.item(2, 3), INDEX);
        BehindWall x = Whole.rich();
        s.due("the first and the last are", x.mark(0, 0, 5) + x.mark(0, 3, 6), 2);
        s.due("the last is", x.item(1, 3), 40);
    }

    private void findingSize() {
        s.term(5, "SIZE: a number of places is below 0");
        for (int n : new int[] {-1, LOW}) {
            s.refused("shorts " + n, Whole::rich, x -> x.sheet(0, 0, n), SIZE);
            s.refused("floats " + n, Whole::rich, x -> x.sheet(2, 1, n), SIZE);
        }
        s.due("0 is not", Whole.rich().sheet(0, 0, 0), 0);
    }

    private void findingKind() {
        s.term(5, "KIND: it is none (of a KIND, a number, or another thing)");
        s.refused("a CABLE as ASLANT", Whole::rich, x -> x.as(1, 3), KIND);
        s.refused("a PIPE asked as CABLE", Whole::rich, x -> x.ask(0, 1), KIND);
        s.refused("a SHEET as RUN", Whole::rich, x -> x.ask(1, 0), KIND);
        s.refused("a number as RUN", Whole::rich, x -> x.ask(3, 0), KIND);
        s.refused("a RUN as SHEET", Whole::rich, x -> x.item(0, 0), KIND);
        s.refused("a number as SHEET", Whole::rich, x -> x.item(3, 0), KIND);
        s.refused("NO NUMBER", Whole::rich, x -> x.item(2, 0), KIND);
        s.refused("a RUN as number", Whole::rich, x -> x.rest(0, 1), KIND);
        s.refused("a SHEET as number", Whole::rich, x -> x.rest(1, 1), KIND);
        s.refused("NONE among shorts", Whole::rich, x -> x.mark(0, 0, NONE), KIND);
        s.refused("shorts among floats", Whole::rich, x -> x.copy(0, 0, 1, 0, 1), KIND);
        s.refused("floats among shorts", Whole::rich, x -> x.copy(1, 0, 0, 0, 1), KIND);
    }

    /** Each changes something that an IMAGE keeps. */
    private static Sentences.Asked[] changes() {
        return new Sentences.Asked[] {x -> x.run(0, 0, 99, 1), x -> x.turns(0, 5), x -> x.set(1, 1, 30),
            x -> x.set(1, 2, 98), x -> x.set(1, 3, 9), x -> x.deal(4), x -> x.seed(-5), x -> x.rule(0, 40),
            x -> x.rule(1, 1), x -> x.build(), x -> x.probe(3, 0), x -> x.probe(0, 35), x -> x.drill(14, 9),
            x -> x.steps(60), x -> Dues.text(x, "hurt 90"), x -> Dues.text(x, "fee 90"), x -> Dues.text(x, "fine 90"),
            x -> x.pour(0)};
    }

    private void imageKeeps() {
        s.term(5, "AN IMAGE keeps all but SHEETS, SLOTS, numbers that wait, THE TAPE");
        Supplier<BehindWall> kept = () -> {
            BehindWall x = Whole.withEmptyTape();
            x.keep();
            return x;
        };
        Sentences.Asked[] changes = changes();
        for (int i = 0; i < changes.length; i++) {
            BehindWall x = kept.get();
            changes[i].of(x);
            BehindWall y = kept.get();
            changes[i].of(y);
            s.dueTrue("change " + i + " is one", !Whole.look(y).equals(Whole.look(kept.get())));
            s.due("back", x.back(), 6);
            s.same("all is as it was ahead of change " + i, x, kept.get());
        }
        for (int run = 0; run < 10; run++) {
            imageKeepsRun(run);
        }
    }

    /** Ten RUNS are kept, each by itself, with all that is told of it. */
    private void imageKeepsRun(int run) {
        BehindWall x = Whole.full();
        x.trim(0);
        x.keep();
        x.turns(run, (x.told(run, 0) + 1) % 6);
        x.set(run, 1, 35 - x.told(run, 1));
        x.set(run, 2, 100 - x.told(run, 2));
        x.set(run, 3, x.told(run, 3) % 9 + 1);
        x.probe(3, x.told(run, 1));
        x.back();
        BehindWall y = Whole.full();
        y.trim(0);
        y.keep();
        for (int row = 0; row < 6; row++) {
            s.due("it PASSES as it did", x.passes(run, row), y.passes(run, row));
        }
        s.same("RUN " + run + " of ten", x, y);
    }

    private void imageKeepsNot() {
        s.term(5, "all but SHEETS, SLOTS, numbers that wait, THE TAPE");
        Sentences.Asked[] changes = {x -> x.mark(0, 1, 30), x -> x.sheet(2, 1, 5), x -> x.sheet(1, -1, 0),
            x -> x.copy(0, 0, 0, 1, 3), x -> x.lay(4, 3, 5), x -> x.lay(0, 1, 5), x -> x.lay(1, 0, 0), x -> x.tell(5),
            x -> x.check(31), x -> x.feed(1, 2, 3), x -> x.trim(6)};
        for (int i = 0; i < changes.length; i++) {
            BehindWall x = Whole.rich();
            changes[i].of(x);
            x.back();
            BehindWall y = Whole.rich();
            y.back();
            s.dueTrue("change " + i + " stays", !Whole.look(x).equals(Whole.look(y)));
            BehindWall late = Whole.rich();
            late.back();
            changes[i].of(late);
            BehindWall early = Whole.rich();
            changes[i].of(early);
            early.back();
            s.same("change " + i + " is the same ahead of it and behind it", early, late);
        }
    }

    private void againAndAgain() {
        s.term(5, "all can become as it is (again and again)");
        BehindWall x = Whole.withEmptyTape();
        for (Sentences.Asked change : changes()) {
            change.of(x);
            x.back();
        }
        BehindWall y = Whole.withEmptyTape();
        y.back();
        s.same("as once", x, y);
        BehindWall z = Sentences.runs(0, 0, 1, 1);
        z.keep();
        z.run(0, 1, 1, 1);
        s.due("another IMAGE", z.keep(), 2);
        z.run(0, 2, 1, 1);
        s.due("the last one", z.back(), 2);
        s.due("the last one", z.back(), 2);
        s.due("there is none at first", new BehindWall().back(), NO);
    }

    private void stepsTold() {
        s.term(5, "THE STEPS TOLD: of n STEPS, one behind the other, by THE IMAGE: MINUTES; "
            + "the RUN with the greatest ODDS (-1 without RUNS), behind each.");
        BehindWall x = Whole.withNoneWaiting();
        BehindWall y = Whole.withNoneWaiting();
        y.back();
        for (int n = 1; n < 6; n++) {
            y.steps(1);
            x.tell(y.house(5));
            x.tell(y.house(8));
        }
        s.due("five by THE IMAGE, though it is otherwise now", x.check(5), 0);
        BehindWall without = new BehindWall();
        without.keep();
        without.deal(3);
        for (int v : new int[] {0, -1, 0, -1}) {
            without.tell(v);
        }
        s.due("-1 without RUNS", without.check(2), 0);
        without.tell(0);
        without.tell(NONE);
        s.due("not NONE", without.check(1), 2);
        BehindWall alike = Sentences.runs(0, 0, 9, 1, 0, 0, 9, 1);
        alike.keep();
        alike.tell(0);
        alike.tell(0);
        s.due("the least of several", alike.check(1), 0);
    }
}

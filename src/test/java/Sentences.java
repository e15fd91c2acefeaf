import java.io.IOException;
import java.nio.charset.StandardCharsets;
import java.nio.file.Files;
import java.nio.file.Path;
import java.util.Set;
import java.util.TreeSet;
import java.util.function.Supplier;

/** Dues told by sentences of the document: each is quoted as it stands there, and has a due of its own. */
final class Sentences extends Dues {
    static final int BAD = BehindWall.BAD, NO = BehindWall.NO, FULL = BehindWall.FULL, NONE = BehindWall.NONE,
        NOTHING = BehindWall.NOTHING, KIND = BehindWall.KIND, INDEX = BehindWall.INDEX, SIZE = BehindWall.SIZE;
    static final int LOW = Integer.MIN_VALUE, HIGH = Integer.MAX_VALUE;
    private static final Set<Integer> REFUSALS = Set.of(BAD, NO, FULL, NONE, NOTHING, KIND, INDEX, SIZE);

    /** A call of an object. */
    interface Asked {
        int of(BehindWall x);
    }

    /** A call of an object with one argument that is looked at. */
    interface AskedWith {
        int of(BehindWall x, int v);
    }

    private final String document;
    private final Set<Integer> promises = new TreeSet<>();
    private String sentence = "";
    private int dues = 1;

    Sentences() throws IOException {
        document = Files.readString(Path.of("../shared/DOC.md"), StandardCharsets.UTF_8);
    }

    /** A sentence of the "Terms": part 0 is what stands ahead of part 1. */
    void term(int part, String quoted) {
        String from = part == 0 ? "## Terms" : "======== " + part + " ";
        String to = part == 5 ? "Ahead of the calls" : "======== " + (part + 1) + " ";
        begin("Terms " + part, between(from, to), quoted);
    }

    void promise(int n, String quoted) {
        promises.add(n);
        begin("Promise " + n, between("## Promise " + n + ":", n == 47 ? "## Not promised" : "## Promise " + (n + 1) + ":"),
            quoted);
    }

    private String between(String from, String to) {
        int at = document.indexOf(from);
        int end = document.indexOf(to, Math.max(at, 0));
        return at < 0 || end < 0 ? "" : document.substring(at, end);
    }

    private void begin(String where, String section, String quoted) {
        close();
        sentence = where + " [" + quoted + "]";
        super.due(sentence + " stands in the document", section.contains(quoted) ? 1 : 0, 1);
    }

    /** A sentence without a due would be one that is quoted but not tested. */
    private void close() {
        super.due(sentence + " has a due", dues > 0 ? 1 : 0, 1);
        sentence = "";
        dues = 0;
    }

    @Override
    void due(String call, long got, long want) {
        dues++;
        super.due(sentence + ": " + call, got, want);
    }

    /** The call is refused with that answer, and all that can be asked for is as if it had not been called. */
    void refused(String call, Supplier<BehindWall> made, Asked asked, int answer) {
        BehindWall x = made.get();
        due(call, asked.of(x), answer);
        same(call + " changes nothing", x, made.get());
    }

    /** Whatever is asked of them, both answer alike; both are used up by it. */
    void same(String what, BehindWall x, BehindWall y) {
        String got = Whole.look(x);
        String want = Whole.look(y);
        dueTrue(what + "\n  " + got + "\n  " + want + "\n ", got.equals(want));
    }

    /** The first and the last value are taken, those beside them are BAD. */
    void onlyWithin(String call, Supplier<BehindWall> made, int first, int last, AskedWith asked) {
        for (int v : new int[] {first, last}) {
            dueTrue(call + " with " + v + " is taken", !REFUSALS.contains(asked.of(made.get(), v)));
        }
        for (int v : new int[] {first - 1, last + 1, LOW, HIGH}) {
            refused(call + " with " + v, made, x -> asked.of(x, v), BAD);
        }
    }

    /** Ends, when each promise from one to another had a sentence. */
    void end(String name, int firstPromise, int lastPromise) {
        close();
        for (int n = firstPromise; n <= lastPromise; n++) {
            dueTrue("promise " + n + " has a sentence", promises.contains(n));
        }
        end(name);
    }

    // ---- objects and lots that many sentences need

    /** RUNS by four numbers each: KIND, CELL, LIKELY, DEEP. */
    static BehindWall runs(int... fours) {
        BehindWall x = new BehindWall();
        for (int i = 0; i < fours.length; i += 4) {
            x.run(fours[i], fours[i + 1], fours[i + 2], fours[i + 3]);
        }
        return x;
    }

    /** A SHEET becomes a row of these places. */
    static void fill(BehindWall x, int sheet, int sort, int... places) {
        x.sheet(sheet, sort, places.length);
        for (int i = 0; i < places.length; i++) {
            x.mark(sheet, i, places[i]);
        }
    }

    /** What stands at a place of a SHEET, by way of SLOT 4. */
    static int at(BehindWall x, int sheet, int place) {
        x.lay(4, 2, sheet);
        return x.item(4, place);
    }

    /** z behind a draw, by numbers that don't wrap. */
    static int next(int z) {
        return (int) ((z & 0xFFFFFFFFL) * 1103515245L + 12345L & 0xFFFFFFFFL);
    }

    /** What a draw gives with this z. */
    static int drawn(int z) {
        return (int) ((next(z) & 0xFFFFFFFFL) / 256);
    }

    /** The least z from 0 on with which a draw has that rest. */
    static int seedFor(int by, int rest) {
        int z = 0;
        while (drawn(z) % by != rest) {
            z++;
        }
        return z;
    }

    /** As many STEPS as bring THE STEP there; an object without RUNS stays as it is but for that. */
    static void stepsUpTo(BehindWall x, int step) {
        while (x.count(1) < step) {
            x.steps(Math.min(100, step - x.count(1)));
        }
    }
}

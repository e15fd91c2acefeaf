/** Objects in which there is something of all, and a look at all that an object can be asked for. */
final class Whole {
    private Whole() { }

    /** Six RUNS, one of each KIND, BUILT; SHEETS 0 (shorts), 1 (floats), 3 (no places); SLOTS 0 .. 3; an IMAGE. */
    static BehindWall rich() {
        return rich(true, true, true);
    }

    static BehindWall unbuilt() {
        return rich(false, true, true);
    }

    static BehindWall withEmptyTape() {
        return rich(true, false, true);
    }

    static BehindWall withNoneWaiting() {
        return rich(true, true, false);
    }

    private static BehindWall rich(boolean built, boolean taped, boolean waits) {
        BehindWall x = new BehindWall();
        int[] cells = {8, 13, 14, 0, 20, 1};
        for (int kind = 0; kind < 6; kind++) {
            x.run(kind, cells[kind], 5 + 3 * kind, 2 + kind);
        }
        Dues.text(x, "hurt d*2+m");
        x.seed(11);
        if (built) {
            x.build();
            x.probe(1, 14);
            x.drill(14, 9);
        }
        x.keep();
        for (int n = 1; n < 3 && waits; n++) {
            x.tell(x.behind(n, 0));
            x.tell(x.behind(n, 2));
        }
        Dues.text(x, "fee c+t*3");
        Dues.text(x, "fine o-d");
        x.rule(0, 12);
        x.rule(1, 0);
        if (built) {
            x.steps(7);
        }
        x.set(3, 3, 1);
        Sentences.fill(x, 0, 0, 1, 20, 14, 40);
        Sentences.fill(x, 1, 1, BehindWall.NONE, 7, -3);
        x.sheet(3, 0, 0);
        x.lay(0, 1, 2);
        x.lay(1, 2, 0);
        x.lay(2, 2, 1);
        x.lay(3, 3, 77);
        if (taped) {
            Dues.feed(x, "fee 41+c");
        }
        return x;
    }

    /** No RUNS, but SHEETS, SLOTS and the like; no IMAGE. */
    static BehindWall withoutRuns() {
        BehindWall x = new BehindWall();
        Dues.text(x, "fee c+t*3");
        Sentences.fill(x, 0, 0, 1, 20, 14, 40);
        Sentences.fill(x, 1, 1, BehindWall.NONE, 7, -3);
        x.sheet(3, 0, 0);
        x.lay(1, 2, 0);
        x.lay(3, 3, 77);
        x.tell(5);
        Dues.feed(x, "fee 41+c");
        return x;
    }

    /** Ten RUNS, fourteen TEXTS, sixty numbers that wait, 96 bytes. */
    static BehindWall full() {
        BehindWall x = new BehindWall();
        x.seed(5);
        x.deal(10);
        for (int i = 0; i < 14; i++) {
            Dues.text(x, "fee 1" + i);
        }
        for (int i = 0; i < 60; i++) {
            x.tell(i);
        }
        Dues.feed(x, "fee c" + " ".repeat(91));
        x.build();
        return x;
    }

    /** All that can be asked for, in one row; the object is used up by it. */
    static String look(BehindWall x) {
        StringBuilder b = new StringBuilder();
        lookAtWall(x, b);
        for (int slot = 0; slot < 5; slot++) {
            b.append(" slot ").append(x.ask(slot, 0)).append(' ').append(x.rest(slot, Integer.MAX_VALUE));
            lookAtRow(x, slot, b);
            b.append(' ').append(x.lay(slot, 0, 0));
        }
        for (int sheet = 0; sheet < 4; sheet++) {
            b.append(" sheet ").append(x.lay(0, 2, sheet));
            lookAtRow(x, 0, b);
            x.lay(0, 0, 0);
            // only floats take NONE: which sort it is
            b.append(' ').append(x.mark(sheet, 0, BehindWall.NONE));
        }
        b.append(" tape ").append(x.count(6)).append(' ').append(x.text()).append(' ').append(x.fee());
        b.append(" waiting ").append(x.count(5)).append(' ').append(x.check(2));
        b.append(" image ").append(x.back());
        lookAtWall(x, b);
        return b.toString();
    }

    private static void lookAtRow(BehindWall x, int slot, StringBuilder b) {
        int beyond = x.item(slot, 24);
        b.append(' ').append(beyond);
        for (int place = 0; place < 24 && beyond == BehindWall.INDEX; place++) {
            int item = x.item(slot, place);
            b.append(' ').append(item);
            if (item == BehindWall.INDEX) {
                return;
            }
        }
    }

    private static void lookAtWall(BehindWall x, StringBuilder b) {
        int runs = x.count(0);
        int texts = x.count(4);
        for (int what : new int[] {0, 1, 2, 3, 4, 7}) {
            b.append(x.count(what)).append(' ');
        }
        for (int what = 0; what < 10; what++) {
            b.append(x.house(what)).append(' ');
        }
        for (int run = 0; run < runs; run++) {
            for (int what = 0; what < 6; what++) {
                b.append(x.told(run, what)).append(' ');
            }
            b.append(x.fine(run)).append(' ');
        }
        for (int key = 0; key < 3; key++) {
            b.append(x.why(key)).append(' ');
        }
        for (int text = 0; text < texts; text++) {
            b.append(x.textTold(text, 0)).append(' ').append(x.textTold(text, 1)).append(' ');
        }
        b.append(x.fee()).append(' ').append(x.when());
        // which RUN is TRUE shows by what drilling costs
        for (int run = 0; run < runs; run++) {
            b.append(' ').append(x.drill(x.told(run, 1), 9));
        }
    }
}

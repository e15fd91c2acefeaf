/** Promises 29 to 33: texts. */
public final class TextsTest {
    private static final int BAD = BehindWall.BAD, FULL = BehindWall.FULL, NONE = BehindWall.NONE;
    private static final int LOW = Integer.MIN_VALUE, HIGH = Integer.MAX_VALUE;
    private final Dues d = new Dues();

    public static void main(String[] args) {
        TextsTest t = new TextsTest();
        t.feed();
        t.trim();
        t.text();
        t.faults();
        t.values();
        t.textTold();
        t.why();
        t.d.end("TextsTest");
    }

    private void feed() {
        BehindWall x = new BehindWall();
        for (int i = 1; i <= 8; i++) {
            d.due("29 feed", x.feed(LOW, HIGH, -1), 12 * i);
        }
        d.due("29 full", x.feed(0, 0, 0), FULL);
        d.due("29 bytes stay", x.count(6), 96);
        x.trim(85);
        d.due("29 full by one", x.feed(0, 0, 0), FULL);
        x.trim(84);
        d.due("29 room again", x.feed(0, 0, 0), 96);
        BehindWall y = new BehindWall();
        // "fee " "t+12" "34+c": the highest byte of each comes first
        y.feed(0x66656520, 0x742B3132, 0x33342B63);
        d.due("29 in order", y.text(), 0);
        d.due("29 read in order", y.fee(), 1234);
    }

    private void trim() {
        BehindWall x = new BehindWall();
        d.due("30 of none", x.trim(0), 0);
        d.due("30 bad", x.trim(1), BAD);
        x.feed(0, 0, 0);
        d.due("30 bad", x.trim(13), BAD);
        d.due("30 bad", x.trim(-1), BAD);
        d.due("30 bad", x.trim(LOW), BAD);
        d.due("30 all", x.trim(12), 12);
        d.due("30 five", x.trim(5), 5);
        d.due("30 bytes", x.count(6), 5);
        d.due("30 bad now", x.trim(6), BAD);
        BehindWall y = new BehindWall();
        Dues.feed(y, "fee 123456");
        y.trim(7);
        d.due("30 the first stay", y.text(), 0);
        d.due("30 the first stay", y.fee(), 123);
    }

    private void text() {
        BehindWall x = new BehindWall();
        d.due("31 empty", x.text(), -100);
        for (int i = 0; i < 14; i++) {
            d.due("31 number", Dues.text(x, "hurt d"), i);
        }
        d.due("31 full", Dues.text(x, "hurt d"), FULL);
        d.due("31 used up", x.count(6), 0);
        d.due("31 a fault ahead of full", Dues.text(x, "hurt x"), -105);
        d.due("31 used up", x.count(6), 0);
        d.due("31 fourteen", x.count(4), 14);
        d.due("31 the last counts", x.why(0), 13);
        BehindWall y = new BehindWall();
        d.due("31 a fault at a word", Dues.text(y, "fee cc"), -104);
        d.due("31 leaves nothing behind", Dues.text(y, "fee c"), 0);
        d.due("31 read by itself", y.textTold(0, 1), 1);
    }

    private void fault(String text, int place) {
        BehindWall x = new BehindWall();
        d.due("31 fault of [" + text + "]", Dues.text(x, text), -100 - place);
        d.due("31 no text", x.count(4), 0);
        d.due("31 used up", x.count(6), 0);
    }

    private void good(String text) {
        BehindWall x = new BehindWall();
        d.due("31 good [" + text + "]", Dues.text(x, text), 0);
    }

    private void faults() {
        fault("   ", 3);
        fault("hurt", 4);
        fault("hurt  ", 6);
        fault("hur d", 0);
        fault("  hurts d", 2);
        fault("hurtd", 0);
        fault("hurta d", 0);
        fault("hurtz d", 0);
        fault("xurt d", 0);
        fault("hurt`d", 4);
        fault("hurt{d", 4);
        fault("hurt /1", 5);
        fault("hurt 1:", 6);
        fault("Hurt d", 0);
        fault("hurt5", 4);
        fault("hurt 12345", 5);
        fault("hurt d5", 6);
        fault("hurt d 5", 7);
        fault("hurt 5d", 6);
        fault("hurt dm", 5);
        fault("hurt c", 5);
        fault("hurt o", 5);
        fault("fee d", 4);
        fault("fee l", 4);
        fault("fine l", 5);
        fault("fine c", 5);
        fault("hurt hurt", 5);
        fault("hurt d+", 7);
        fault("hurt d+ ", 8);
        fault("hurt +d", 5);
        fault("hurt d++d", 7);
        fault("hurt d<m<l", 8);
        fault("hurt d=m>l", 8);
        fault("hurt d!", 6);
        fault("hurt (d", 7);
        fault("hurt (d))", 8);
        fault("hurt ()", 6);
        fault("hurt d)", 6);
        fault("hurt (d m)", 8);
        fault("hurt !", 6);
        fault("hurt d#", 6);
        fault("hurt d" + (char) 233, 6);
        fault("hurt d\0", 6);
        fault("hurt\td", 4);
        fault("hurt d" + (char) 160 + "+d", 6);
        fault("hurt -1", 5);
        fault("hurt " + "(".repeat(9) + "d" + ")".repeat(9), 13);
        fault("hurt " + "!".repeat(9) + "d", 13);
        fault("hurt " + "!(".repeat(8) + "!d" + ")".repeat(8), 21);
        fault("hurt " + "!".repeat(8) + "(!d)", 14);
        good("hurt " + "(".repeat(8) + "d" + ")".repeat(8));
        good("hurt " + "!".repeat(8) + "d");
        good("hurt " + "!(".repeat(8) + "d" + ")".repeat(8));
        good("hurt " + "!".repeat(8) + "d+" + "!".repeat(8) + "(d)+(" + "!".repeat(8) + "m)");
        good("hurt " + "(".repeat(8) + "d" + ")".repeat(8) + "*" + "(".repeat(8) + "d" + ")".repeat(8));
        good("hurt(d)");
        good("hurt!d");
        good("  fee   c   +  t  ");
        good("fine o<d&o>d|o=d");
        good("hurt (d<m)<l");
        good("hurt d<m&m<l");
        good("hurt 0000");
        good("fee c" + " ".repeat(91));
    }

    private void gives(String law, int want) {
        BehindWall x = new BehindWall();
        x.run(0, 0, 1, 7);
        x.build();
        x.drill(0, 9);
        x.probe(3, 0);
        x.probe(3, 0);
        Dues.text(x, "fee " + law);
        d.due("31 " + law + " with c 7, t 2", x.fee(), want);
    }

    private void values() {
        gives("c", 7);
        gives("t", 2);
        gives("0042", 42);
        gives("c-t-1", 4);
        gives("c-(t-1)", 6);
        gives("2+3*4", 14);
        gives("(2+3)*4", 20);
        gives("100/7/2", 7);
        gives("100/(7/2)", 33);
        gives("0-7/2", -3);
        gives("(0-7)/2", -3);
        gives("5/0", 0);
        gives("c/(t-2)", 0);
        gives("2*3/4", 1);
        gives("c>t", 1);
        gives("t>c", 0);
        gives("c>7", 0);
        gives("c<t", 0);
        gives("t<c", 1);
        gives("c<7", 0);
        gives("c=7", 1);
        gives("c=6", 0);
        gives("c+1=8", 1);
        gives("c&t", 1);
        gives("c&0", 0);
        gives("0&t", 0);
        gives("0|t", 1);
        gives("0|0", 0);
        gives("1|0&0", 1);
        gives("(1|0)&0", 0);
        gives("1<2&3", 1);
        gives("!c", 0);
        gives("!0", 1);
        gives("!!c", 1);
        gives("!c+5", 5);
        gives("!(c-7)", 1);
        gives("!0*9", 9);
        gives("9999*9999*9999", (int) (9999L * 9999L * 9999L));
        gives("(0-8*4096*4096*16)/(0-1)", LOW);
        gives("0-8*4096*4096*16-1", HIGH);
    }

    private void textTold() {
        BehindWall x = new BehindWall();
        d.due("32 bad", x.textTold(0, 0), BAD);
        Dues.text(x, "fine o+d*12-(o/3)");
        Dues.text(x, "hurt 1");
        Dues.text(x, "fee !(c<t)|7");
        int[][] due = {{2, 5}, {0, 1}, {1, 3}};
        for (int i = 0; i < 3; i++) {
            d.due("32 key", x.textTold(i, 0), due[i][0]);
            d.due("32 numbers and names", x.textTold(i, 1), due[i][1]);
        }
        for (int[] b : new int[][] {{-1, 0}, {3, 0}, {0, -1}, {0, 2}, {HIGH, LOW}}) {
            d.due("32 bad", x.textTold(b[0], b[1]), BAD);
        }
    }

    private void why() {
        BehindWall x = new BehindWall();
        d.due("33 none", x.why(0), NONE);
        Dues.text(x, "fee 1");
        Dues.text(x, "hurt 1");
        Dues.text(x, "fee 2");
        d.due("33 hurt", x.why(0), 1);
        d.due("33 fee", x.why(1), 2);
        d.due("33 none", x.why(2), NONE);
        d.due("33 the last counts", x.fee(), 2);
        BehindWall y = new BehindWall();
        Dues.text(y, "fine 1");
        d.due("33 number 0", y.why(2), 0);
        Dues.text(x, "fee 3+");
        d.due("33 no text, no change", x.why(1), 2);
        for (int b : new int[] {-1, 3, LOW, HIGH}) {
            d.due("33 bad", x.why(b), BAD);
        }
    }
}

/** The "Terms", part 4: TEXTS, sentence by sentence. */
public final class TextSentencesTest {
    private static final int FULL = BehindWall.FULL, NONE = BehindWall.NONE;
    private static final int LOW = Integer.MIN_VALUE, HIGH = Integer.MAX_VALUE;
    private final Sentences s;

    private TextSentencesTest(Sentences s) {
        this.s = s;
    }

    public static void main(String[] args) throws Exception {
        TextSentencesTest t = new TextSentencesTest(new Sentences());
        t.fourteen();
        t.tapeOf96();
        t.usedUp();
        t.keyAndE();
        t.keys();
        t.loosestFirst();
        t.or();
        t.and();
        t.test();
        t.sum();
        t.term();
        t.piece();
        t.number();
        t.namesOfHurt();
        t.namesOfFee();
        t.namesOfFine();
        t.namesAreOneLetter();
        t.words();
        t.signs();
        t.blanks();
        t.aWordBehindAnother();
        t.faultIsTheFirst();
        t.wordsThatNeedABlank();
        t.numbersTooLong();
        t.theNinthBracket();
        t.theNinthNot();
        t.eachByItself();
        t.theEnd();
        t.intsWrap();
        t.by0();
        t.testsGive1or0();
        t.trueIsNot0();
        t.bothSides();
        t.toldLast();
        t.s.end("TextSentencesTest", 1, 0);
    }

    /** The TEXT is one, with nothing told before it. */
    private void good(String text) {
        BehindWall x = new BehindWall();
        s.due("[" + text + "]", Dues.text(x, text), 0);
        s.due("[" + text + "] is kept", x.count(4), 1);
    }

    /** The TEXT has its FAULT there. */
    private void fault(String text, int place) {
        BehindWall x = new BehindWall();
        s.due("[" + text + "]", Dues.text(x, text), -100 - place);
        s.due("[" + text + "] is none", x.count(4), 0);
    }

    /** COST 7, TESTS 2: what fee gives by an E. */
    private void gives(String law, int due) {
        BehindWall x = Sentences.runs(0, 0, 1, 7);
        x.build();
        x.drill(0, 9);
        x.probe(3, 0);
        x.probe(3, 0);
        s.due("[" + law + "] is a TEXT", Dues.text(x, "fee " + law), 0);
        s.due("[" + law + "]", x.fee(), due);
    }

    private void fourteen() {
        s.term(4, "TEXTS, 14 at most, numbered from 0");
        BehindWall x = new BehindWall();
        for (int i = 0; i < 14; i++) {
            s.due("a TEXT", Dues.text(x, "fee " + i), i);
        }
        s.due("one too many", Dues.text(x, "fee 99"), FULL);
        s.due("how many", x.count(4), 14);
        s.due("it doesn't count", x.fee(), 13);
    }

    private void tapeOf96() {
        s.term(4, "THE TAPE (96 bytes at most;");
        BehindWall x = new BehindWall();
        for (int i = 1; i < 9; i++) {
            s.due("feed", x.feed(0, 0, 0), 12 * i);
        }
        s.due("one too many", x.feed(0, 0, 0), FULL);
        s.due("as many as before", x.count(6), 96);
        good("fee " + "1+".repeat(45) + "10");
        fault("fee " + "1+".repeat(46), 96);
    }

    private void usedUp() {
        s.term(4, "an act that reads it uses it up, whatever it answers");
        BehindWall x = new BehindWall();
        Dues.text(x, "fee 1");
        s.due("by a TEXT", x.count(6), 0);
        Dues.text(x, "fee 1)");
        s.due("by a FAULT", x.count(6), 0);
        s.due("by none", x.text(), -100);
        BehindWall full = Whole.full();
        s.due("FULL", full.text(), FULL);
        s.due("by FULL", full.count(6), 0);
        s.due("there is none then", full.text(), -100);
        BehindWall y = new BehindWall();
        Dues.feed(y, "fee 12");
        y.why(1);
        y.fee();
        y.textTold(0, 0);
        y.count(6);
        y.keep();
        y.back();
        s.due("other acts don't", y.text(), 0);
    }

    private void keyAndE() {
        s.term(4, "KEY E.");
        good("fee 1");
        fault("fee", 3);
        fault("1", 0);
        fault("1 fee", 0);
        fault("fee 1 fee 1", 6);
        fault("fee fee 1", 4);
        fault("", 0);
    }

    private void keys() {
        s.term(4, "KEY: hurt | fee | fine.");
        good("hurt 1");
        good("fee 1");
        good("fine 1");
        for (String no : "hur hurts hurtt fe fees fin fines h x run told zzzz fi".split(" ")) {
            fault(no + " 1", 0);
        }
        fault("Fee 1", 0);
        fault("fEe 1", 0);
        for (String key : "hurt fee fine".split(" ")) {
            for (int i = 0; i < key.length(); i++) {
                fault(key.substring(0, i) + "x" + key.substring(i + 1) + " 1", 0);
            }
        }
    }

    private void loosestFirst() {
        s.term(4, "E, the loosest first");
        // each sign beside each that binds more: on both sides of it
        gives("1|0&0", 1);
        gives("0&0|1", 1);
        gives("1&2<1", 0);
        gives("2<1&1", 0);
        gives("1<1+1", 1);
        gives("1+1>1", 1);
        gives("1=2-1", 1);
        gives("2+3*4", 14);
        gives("9-8/2", 5);
        gives("3*4+2", 14);
        gives("8/2-9", -5);
        gives("!0*5", 5);
        gives("5*!0", 5);
        gives("!1|1", 1);
        gives("(1|0)&0", 0);
        gives("(2+3)*4", 20);
        gives("1+(1>1)", 1);
        gives("1&(2<3)", 1);
    }

    private void or() {
        s.term(4, "OR: AND { | AND }");
        gives("0|0", 0);
        gives("0|1", 1);
        gives("0|0|0|5", 1);
        gives("1|0&0", 1);
        gives("0&0|1", 1);
        fault("fee |1", 4);
        fault("fee 1||1", 6);
        fault("fee 1|", 6);
    }

    private void and() {
        s.term(4, "AND: TEST { & TEST }");
        gives("1&1", 1);
        gives("1&0", 0);
        gives("1&1&1&0", 0);
        gives("2>1&3", 1);
        gives("3&2>1", 1);
        gives("1&2=2", 1);
        fault("fee &1", 4);
        fault("fee 1&&1", 6);
        fault("fee 1&", 6);
    }

    private void test() {
        s.term(4, "TEST: SUM [ (< | = | >) SUM ]");
        gives("1<2", 1);
        gives("2<2", 0);
        gives("3<2", 0);
        gives("2=2", 1);
        gives("1=2", 0);
        gives("3>2", 1);
        gives("2>2", 0);
        gives("1>2", 0);
        gives("1+2<2+2", 1);
        gives("4-2=2", 1);
        for (String first : "< = >".split(" ")) {
            for (String second : "< = >".split(" ")) {
                fault("fee 1" + first + "2" + second + "3", 7);
                fault("fee (1" + first + "2" + second + "3)", 8);
                fault("fee 1" + first + second + "3", 6);
                good("fee (1" + first + "2)" + second + "3");
                good("fee 1" + first + "2&2" + second + "3");
                good("fee 1" + first + "2|2" + second + "3");
            }
        }
    }

    private void sum() {
        s.term(4, "SUM: TERM { (+ | -) TERM }");
        gives("1+2+3", 6);
        gives("9-2-3", 4);
        gives("9-2+3", 10);
        gives("9-(2+3)", 4);
        gives("2+3*4", 14);
        gives("2*3-4", 2);
        fault("fee -1", 4);
        fault("fee +1", 4);
        fault("fee 1--1", 6);
        fault("fee 1+-1", 6);
    }

    private void term() {
        s.term(4, "TERM: PIECE { (* | /) PIECE }");
        gives("2*3*4", 24);
        gives("100/7/2", 7);
        gives("100/(7/2)", 33);
        gives("7/2*2", 6);
        gives("7*2/2", 7);
        fault("fee *1", 4);
        fault("fee /1", 4);
        fault("fee 1**1", 6);
        fault("fee 1*/1", 6);
    }

    private void piece() {
        s.term(4, "PIECE: NUMBER (1 to 4 digits) | NAME | ! PIECE | ( E ).");
        gives("5", 5);
        gives("c", 7);
        gives("!0", 1);
        gives("!!0", 0);
        gives("!c*9+4", 4);
        gives("!0*9", 9);
        gives("!(0)+4", 5);
        gives("(5)", 5);
        gives("(0|3)", 1);
        gives("(2)*(3)", 6);
        gives("!(c=7)", 0);
        gives("3-!0", 2);
        fault("fee ()", 5);
        fault("fee )", 4);
        fault("fee (1", 6);
        fault("fee 1)", 5);
        fault("fee (1))", 7);
        fault("fee 1(", 5);
        fault("fee (1)(2)", 7);
        fault("fee !", 5);
        fault("fee !)", 5);
        fault("fee 1!", 5);
        fault("fee 1!2", 5);
        fault("fee !+1", 5);
    }

    private void number() {
        s.term(4, "NUMBER (1 to 4 digits)");
        gives("0", 0);
        gives("9", 9);
        gives("10", 10);
        gives("999", 999);
        gives("9999", 9999);
        gives("0000", 0);
        gives("0042", 42);
        gives("1234+5670", 6904);
        gives("8", 8);
        fault("fee 10000", 4);
        fault("fee 00000", 4);
        fault("fee 1234567890", 4);
        fault("fee 1+10000", 6);
    }

    /** The names that a KEY doesn't have are FAULTS. */
    private void onlyNames(String key, String names) {
        for (char c = 'a'; c <= 'z'; c++) {
            if (names.indexOf(c) >= 0) {
                good(key + " " + c);
            } else {
                fault(key + " " + c, key.length() + 1);
            }
        }
    }

    private void namesOfHurt() {
        s.term(4, "of hurt d DEEP, m MAINS, l LIKELY");
        onlyNames("hurt", "dml");
        BehindWall x = Sentences.runs(0, 0, 33, 4);
        Dues.text(x, "hurt d");
        s.due("d", x.told(0, 5), 4);
        Dues.text(x, "hurt l");
        s.due("l", x.told(0, 5), 33);
        Dues.text(x, "hurt m");
        s.due("m", x.told(0, 5), 1);
        x.rule(1, 0);
        s.due("m", x.told(0, 5), 0);
        Dues.text(x, "hurt d*10+l+m");
        x.rule(1, 1);
        s.due("all", x.told(0, 5), 74);
        x.set(0, 2, 9);
        s.due("as LIKELY is now", x.told(0, 5), 50);
    }

    private void namesOfFee() {
        s.term(4, "of fee c COST, t TESTS (what fee gives is told by fee(); without a TEXT: COST)");
        onlyNames("fee", "ct");
        gives("c*10+t", 72);
        BehindWall x = Sentences.runs(0, 0, 1, 7);
        s.due("without a TEXT", x.fee(), 0);
        x.build();
        x.drill(0, 9);
        x.probe(3, 0);
        s.due("without a TEXT", x.fee(), 7);
        Dues.text(x, "fine 5");
        Dues.text(x, "hurt 5");
        s.due("without a TEXT of its own", x.fee(), 7);
    }

    private void namesOfFine() {
        s.term(4, "of fine o ODDS, d DEEP (what fine gives for a RUN is told by fine(); without a TEXT: ODDS)");
        onlyNames("fine", "od");
        BehindWall x = Sentences.runs(0, 0, 3, 7, 0, 0, 99, 9);
        s.due("without a TEXT", x.fine(0), 3000);
        Dues.text(x, "fee 5");
        Dues.text(x, "hurt 5");
        s.due("without a TEXT of its own", x.fine(1), 99000);
        Dues.text(x, "fine o*10+d");
        s.due("of RUN 0", x.fine(0), 30007);
        s.due("of RUN 1", x.fine(1), 990009);
    }

    private void namesAreOneLetter() {
        s.term(4, "NAMES, each one letter");
        fault("hurt dd", 5);
        fault("hurt dml", 5);
        fault("fee cost", 4);
        fault("fee D", 4);
        good("hurt d+m");
    }

    private void words() {
        s.term(4, "A word is a row of letters a .. z, or of digits, as long as it goes; any other byte is a sign by itself.");
        fault("feea 1", 0);
        fault("feez 1", 0);
        // ` stands right ahead of a, { right behind z, / right ahead of 0, : right behind 9
        fault("fee`1", 3);
        fault("fee{1", 3);
        fault("fee 1`", 5);
        fault("fee 1{", 5);
        fault("fee 12:", 6);
        fault("fee 12;", 6);
        fault("fee 12A", 6);
        gives("90/9", 10);
        fault("fee _", 4);
        fault("fee 1_1", 5);
    }

    private void signs() {
        s.term(4, "any other byte is a sign by itself");
        for (int b = 0; b < 256; b++) {
            if ("|&<=>+-*/".indexOf(b) >= 0) {
                good("fee 1" + (char) b + "1");
            } else if (b != ' ' && (b < '0' || b > '9')) {
                fault("fee 1" + (char) b + "1", 5);
                fault((char) b + " 1", 0);
            }
        }
        fault("fee 1<=2", 6);
        fault("fee 1==2", 6);
    }

    private void blanks() {
        s.term(4, "Between words and signs, and at the ends, there may be blanks (byte 32)");
        good("   fee   (  1  +  ! c )  <  2   ");
        good("fee(1+!c)<2");
        good("fee!1");
        good(" ".repeat(91) + "fee 1");
        good("fee 1" + " ".repeat(91));
        fault("fee\t1", 3);
        fault("fee 1\n", 5);
        fault("fee 1\0", 5);
        fault("\0fee 1", 0);
        fault("fee 1" + (char) 160, 5);
        fault("fee 1" + (char) 31, 5);
        fault("f ee 1", 0);
        fault("fee 1 2", 6);
        fault("fee 1 < = 2", 8);
    }

    private void aWordBehindAnother() {
        s.term(4, "a word right behind another one needs one");
        fault("fee1", 3);
        fault("fee12 ", 3);
        fault("feec", 0);
        good("fee 1");
        good("fee c");
        fault("fee c1", 5);
        fault("fee 1c", 5);
        good("fee(1)");
    }

    private void faultIsTheFirst() {
        s.term(4, "FAULT: the first byte of the first word or sign with which no TEXT goes on");
        fault("fee cost + more )", 4);
        fault("fee 1 + more ) )", 8);
        fault("fine c + d", 5);
        fault("xx yy", 0);
        fault("   xx", 3);
        fault("fee (1+2))+))", 9);
        fault("fee 1 @ # $", 6);
        fault("fee 12345 @", 4);
        // a TEXT is read by itself, whatever was read ahead of it
        BehindWall x = new BehindWall();
        for (String before : new String[] {"xx", "fee cc", "fee 12345", "fee 1 2", "fee ((1", "fee !", "fee 1<2<3", "@"}) {
            s.dueTrue("a FAULT", Dues.text(x, before) <= -100);
            int had = x.count(4);
            s.due("a TEXT behind [" + before + "]", Dues.text(x, "fee 7"), had);
            s.due("it has one NUMBER", x.textTold(had, 1), 1);
            s.due("what it gives", x.fee(), 7);
        }
    }

    private void wordsThatNeedABlank() {
        s.term(4, "(a word that needs a blank ahead of it, a NUMBER of more than 4 digits,");
        fault("fee1", 3);
        fault("fee 1234c", 8);
        fault("fee c1234", 5);
        fault("fee 1+c2", 7);
        fault("hurt99999", 4);
    }

    private void numbersTooLong() {
        s.term(4, "a NUMBER of more than 4 digits");
        good("fee 9999");
        fault("fee 99999", 4);
        fault("fee 1*(2+ 12345)", 10);
        fault("fee 0" + "0".repeat(91), 4);
    }

    private void theNinthBracket() {
        s.term(4, "the ninth ( that would be open within others");
        String eight = "(".repeat(8);
        String closed = ")".repeat(8);
        good("fee " + eight + "1" + closed);
        fault("fee (" + eight + "1" + closed + ")", 12);
        good("fee " + eight + "1" + closed + "+" + eight + "1" + closed);
        good("fee " + eight + "1)+(1)" + ")".repeat(7));
        fault("fee " + eight + "1+(1)" + closed, 14);
        good("fee " + "(1)+".repeat(20) + "(1)");
    }

    private void theNinthNot() {
        s.term(4, "the ninth ! likewise");
        String eight = "!".repeat(8);
        good("fee " + eight + "1");
        fault("fee " + eight + "!1", 12);
        good("fee " + eight + "1+" + eight + "1");
        good("fee (" + eight + "1)+" + eight + "(1)");
        good("fee " + eight + "(1)*(" + eight + "1)");
        fault("fee " + eight + "(!1)", 13);
        fault("fee !!!!(1+!!!!!1)", 15);
        good("fee !!!!(1+!!!!1)");
        good("fee " + "!1+".repeat(30) + "!1");
    }

    private void eachByItself() {
        s.term(4, "each by itself)");
        good("fee " + "!(".repeat(8) + "1" + ")".repeat(8));
        fault("fee " + "!(".repeat(8) + "!1" + ")".repeat(8), 20);
        fault("fee " + "!(".repeat(8) + "(1)" + ")".repeat(8), 20);
        good("fee " + "!".repeat(8) + "(".repeat(8) + "1" + ")".repeat(8));
        fault("fee " + "!".repeat(8) + "(".repeat(9) + "1" + ")".repeat(9), 20);
    }

    private void theEnd() {
        s.term(4, "the end (the place behind the last byte), if it comes too soon");
        fault("", 0);
        fault(" ", 1);
        fault("fee", 3);
        fault("fee   ", 6);
        fault("fee 1+", 6);
        fault("fee 1+  ", 8);
        fault("fee ((1)", 8);
        fault("fee !", 5);
        fault(" ".repeat(96), 96);
        fault("fee " + "1+".repeat(46), 96);
    }

    private void intsWrap() {
        s.term(4, "Ints wrap");
        gives("9999*9999*9999", -1027349969);
        gives("4096*4096*128", LOW);
        gives("4096*4096*128-1", HIGH);
        gives("4096*4096*128-1+1", LOW);
        gives("0-4096*4096*128", LOW);
        gives("4096*4096*256", 0);
        gives("4096*4096*128/(0-1)", LOW);
        gives("4096*4096*128<0", 1);
    }

    private void by0() {
        s.term(4, "/ is 0 by 0");
        gives("5/0", 0);
        gives("0/0", 0);
        gives("(0-5)/0", 0);
        gives("5/(c-7)", 0);
        gives("9+5/0", 9);
        gives("5/0/0", 0);
    }

    private void testsGive1or0() {
        s.term(4, "tests, & | ! give 1 or 0");
        gives("(5>3)+(3<5)+(4=4)", 3);
        gives("(5<3)+(3>5)+(4=5)", 0);
        gives("(6&7)+(6|7)+!0", 3);
        gives("(6&0)+(0|0)+!6", 0);
        gives("2|4", 1);
        gives("2&4", 1);
    }

    private void trueIsNot0() {
        s.term(4, "(what is not 0 is true;");
        gives("(0-1)&2", 1);
        gives("(0-1)|0", 1);
        gives("!(0-1)", 0);
        gives("2&4", 1);
        gives("!2", 0);
        gives("0&0-1", 0);
    }

    private void bothSides() {
        s.term(4, "both sides are worked out");
        gives("0&5/0", 0);
        gives("1|5/0", 1);
        gives("0&1+(c|t)", 0);
        gives("1|!(c&t)", 1);
    }

    private void toldLast() {
        s.term(4, "Of a KEY that TEXT counts that was told last.");
        BehindWall x = new BehindWall();
        Dues.text(x, "fee 1");
        Dues.text(x, "fee 2");
        s.due("the last", x.fee(), 2);
        Dues.text(x, "fine 3");
        Dues.text(x, "hurt 4");
        s.due("of its KEY", x.fee(), 2);
        s.due("why", x.why(1), 1);
        Dues.text(x, "fee 5+");
        s.due("a FAULT counts for nothing", x.fee(), 2);
        x.keep();
        Dues.text(x, "fee 6");
        s.due("the last", x.fee(), 6);
        x.back();
        s.due("the last of those that are", x.fee(), 2);
        s.due("why", x.why(1), 1);
        Dues.text(x, "fee 7");
        s.due("in its room", x.fee(), 7);
        s.due("of a KEY that has none", new BehindWall().why(0), NONE);
    }
}

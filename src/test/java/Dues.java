/** Counts and prints the answers that are not as due, and feeds texts. */
class Dues {
    private int wrong = 0;
    private int right = 0;

    void due(String call, long got, long want) {
        if (got == want) {
            right++;
        } else {
            wrong++;
            System.out.println(call + " answered " + got + ", due is " + want);
        }
    }

    void dueTrue(String what, boolean so) {
        due(what, so ? 1 : 0, 1);
    }

    /** Puts a text's bytes on THE TAPE of an object whose tape is empty. */
    static void feed(BehindWall x, String text) {
        int n = text.length();
        for (int i = 0; i < n; i += 12) {
            x.feed(four(text, i), four(text, i + 4), four(text, i + 8));
        }
        x.trim(n);
    }

    static int text(BehindWall x, String text) {
        feed(x, text);
        return x.text();
    }

    /** Four signs from a place on as an int, blanks behind the end. */
    static int four(String text, int at) {
        int v = 0;
        for (int i = at; i < at + 4; i++) {
            v = v << 8 | (i < text.length() ? text.charAt(i) : ' ');
        }
        return v;
    }

    void end(String name) {
        System.out.println(name + ": " + right + " as due, " + wrong + " not");
        if (wrong != 0) {
            System.exit(1);
        }
    }
}

import java.lang.reflect.Method;
import java.util.ArrayList;
import java.util.List;
import java.util.Map;
import java.util.Random;
import java.util.TreeMap;

/** Runs of 512 calls drawn by lot, each answered by BehindWall and by the Model alike. */
public final class AgainstModelTest {
    /** A call, how often it is drawn, and what its arguments lie within. */
    private record Call(String name, int weight, int... bounds) { }

    private static final List<Call> CALLS = List.of(
        new Call("run", 12, 0, 5, 0, 35, 1, 99, 1, 9),
        new Call("told", 20, 0, 9, 0, 7),
        new Call("as", 6, 0, 9, 0, 5),
        new Call("turns", 6, 0, 9, 0, 5),
        new Call("set", 9, 0, 9, 1, 3, 1, 40),
        new Call("passes", 8, 0, 9, 0, 5),
        new Call("tells", 8, 0, 9, 0, 3, 0, 35),
        new Call("deal", 3, 1, 10),
        new Call("seed", 3, Integer.MIN_VALUE, Integer.MAX_VALUE),
        new Call("rule", 8, 0, 1, 0, 49),
        new Call("build", 4),
        new Call("probe", 16, 0, 3, 0, 35),
        new Call("drill", 12, 0, 35, 1, 9),
        new Call("steps", 6, 1, 100),
        new Call("house", 20, 0, 9),
        new Call("chance", 8, 0, 35),
        new Call("risk", 8, 0, 35, 1, 9),
        new Call("where", 8, 0, 3, 1, 9, 0, 1),
        new Call("safe", 8, 0, 35, 0, 9999),
        new Call("learn", 8, 0, 3, 0, 35, 0, 3, 1, 9),
        new Call("worthiest", 3, 0, 3, 1, 9, 0, 2),
        new Call("fits", 6, 0, 3, 0, 1),
        new Call("behind", 8, 0, 100, 0, 12),
        new Call("when", 4),
        new Call("slipped", 2, 1, 30, 0, 1),
        new Call("fee", 5),
        new Call("fine", 5, 0, 9),
        new Call("feed", 3, Integer.MIN_VALUE, Integer.MAX_VALUE, Integer.MIN_VALUE, Integer.MAX_VALUE,
            Integer.MIN_VALUE, Integer.MAX_VALUE),
        new Call("trim", 2, 0, 96),
        new Call("text", 1),
        new Call("textTold", 4, 0, 13, 0, 1),
        new Call("why", 4, 0, 2),
        new Call("sheet", 8, 0, 3, -1, 1, 0, 24),
        new Call("mark", 24, 0, 3, 0, 23, -3, 40),
        new Call("pour", 3, 0, 3),
        new Call("reads", 5, 0, 3),
        new Call("copy", 12, 0, 3, 0, 12, 0, 3, 0, 12, 0, 8),
        new Call("lay", 24, 0, 4, 0, 3, 0, 9),
        new Call("ask", 8, 0, 4, 0, 5),
        new Call("item", 8, 0, 4, 0, 23),
        new Call("rest", 6, 0, 4, -9, 9),
        new Call("tell", 6, 0, 60),
        new Call("check", 3, 1, 30),
        new Call("keep", 3),
        new Call("back", 2),
        new Call("count", 12, 0, 7));

    private static final int[] ODD = {Integer.MIN_VALUE, Integer.MAX_VALUE, Model.NONE, Model.BAD, 65536 + 7, 32768,
        -32769, 99999, 100000, -99999, -100000, -1, 0, 100, 102, 96, 97};

    private final Dues dues = new Dues();
    private final Map<String, Integer> seen = new TreeMap<>();
    private final Map<String, Method> real = new TreeMap<>();
    private final Map<String, Method> modelled = new TreeMap<>();
    private Random lot;
    private BehindWall x;
    private Model m;
    private int calls;
    private int bare;
    private List<String> log;

    public static void main(String[] args) throws Exception {
        long first = args.length > 0 ? Long.parseLong(args[0]) : 1;
        long many = args.length > 1 ? Long.parseLong(args[1]) : 400;
        AgainstModelTest t = new AgainstModelTest();
        t.findMethods();
        for (long seed = first; seed < first + many; seed++) {
            t.runOf(seed);
            t.learningOf(seed);
        }
        if (args.length > 0) {
            t.seen.forEach((k, v) -> System.out.println(k + " " + v));
        }
        t.everyRefusalSeen();
        t.dues.end("AgainstModelTest");
    }

    private void findMethods() throws Exception {
        for (Call c : CALLS) {
            Class<?>[] ints = new Class<?>[c.bounds().length / 2];
            java.util.Arrays.fill(ints, int.class);
            real.put(c.name(), BehindWall.class.getMethod(c.name(), ints));
            modelled.put(c.name(), Model.class.getDeclaredMethod(c.name(), ints));
        }
    }

    private void runOf(long seed) throws Exception {
        lot = new Random(seed);
        x = new BehindWall();
        m = new Model();
        calls = 0;
        log = new ArrayList<>();
        int wildness = new int[] {0, 3, 12}[lot.nextInt(3)];
        int profile = lot.nextInt(6);
        bare = profile == 0 ? 100 + lot.nextInt(300) : 0;
        if (profile > 0) {
            both("seed", lot.nextInt());
            both("deal", 1 + lot.nextInt(10));
        }
        while (calls < 512) {
            int kind = lot.nextInt(100);
            if (kind < 4) {
                feedText();
            } else if (kind < 6) {
                tellSteps();
            } else if (kind < 8) {
                makeSheet();
            } else if (kind == 8 && lot.nextInt(3) == 0) {
                overfeed();
            } else if (kind < 16 && profile == 1) {
                both("steps", 100);
            } else {
                anyCall(wildness);
            }
        }
    }

    /** Few CELLS are WISHED, each passed by a RUN, so that TESTS are worth something. */
    private void learningOf(long seed) throws Exception {
        lot = new Random(-seed);
        x = new BehindWall();
        m = new Model();
        calls = 0;
        log = new ArrayList<>();
        both("seed", lot.nextInt());
        both("deal", 2 + lot.nextInt(9));
        both("rule", 0, lot.nextInt(50));
        if (lot.nextBoolean()) {
            feedText();
        }
        both("sheet", 0, 0, 24);
        for (int i = 0; i < 24; i++) {
            both("mark", 0, i, 99);
        }
        int many = 2 + lot.nextInt(3);
        for (int i = 0; i < many; i++) {
            int cell = lot.nextInt(36);
            for (int tries = 0; tries < 99 && m.risk(cell, 9) == 0; tries++) {
                cell = lot.nextInt(36);
            }
            both("mark", 0, lot.nextInt(24), cell);
        }
        for (int depth = 9; depth > 5; depth--) {
            both("where", 0, depth, 0);
            both("where", 0, depth, 1);
            both("worthiest", 0, depth, 0);
            both("worthiest", 0, depth, 1);
            both("worthiest", 0, depth, 2);
        }
        for (int i = 0; i < 144; i++) {
            both("learn", i / 36, i % 36, 0, 9);
        }
    }

    private void anyCall(int wildness) throws Exception {
        int total = CALLS.stream().mapToInt(Call::weight).sum();
        int at = lot.nextInt(total);
        int i = 0;
        while (at >= CALLS.get(i).weight()) {
            at -= CALLS.get(i).weight();
            i++;
        }
        String name = CALLS.get(i).name();
        if (calls < bare && (name.equals("run") || name.equals("deal"))) {
            return;
        }
        int[] bounds = CALLS.get(i).bounds();
        int[] args = new int[bounds.length / 2];
        for (int k = 0; k < args.length; k++) {
            args[k] = argument(bounds[2 * k], bounds[2 * k + 1], wildness);
        }
        both(name, args);
    }

    private int argument(int low, int high, int wildness) {
        if (low == Integer.MIN_VALUE) {
            return lot.nextInt();
        }
        int way = lot.nextInt(100);
        if (way < wildness) {
            return lot.nextInt(3) == 0 ? lot.nextInt() : ODD[lot.nextInt(ODD.length)];
        }
        if (way < 2 * wildness) {
            return lot.nextBoolean() ? low - 1 : high + 1;
        }
        // RUNS, TEXTS and the like are asked for by numbers that there are, mostly
        int top = high == 9 && low == 0 && lot.nextInt(4) != 0 ? Math.max(0, m.w.runs.size() - 1) : high;
        return low + lot.nextInt(top - low + 1);
    }

    private void feedText() throws Exception {
        if (m.tape.length() > 0) {
            both("trim", 0);
        }
        String text = lot.nextInt(3) == 0 ? spoilt(someText()) : someText();
        if (text.length() > 96) {
            text = text.substring(0, 96);
        }
        for (int i = 0; i < text.length(); i += 12) {
            both("feed", Dues.four(text, i), Dues.four(text, i + 4), Dues.four(text, i + 8));
        }
        both("trim", text.length());
        both("text");
    }

    private void overfeed() throws Exception {
        for (int i = 0; i < 9; i++) {
            both("feed", lot.nextInt(), lot.nextInt(), lot.nextInt());
        }
        both("text");
    }

    private String someText() {
        int key = lot.nextInt(3);
        String names = new String[] {"dml", "ct", "od"}[key];
        String body = someExpression(names, 1 + lot.nextInt(5));
        String gap = lot.nextInt(6) == 0 ? "" : " ".repeat(1 + lot.nextInt(2));
        return (lot.nextInt(5) == 0 ? " " : "") + Model.KEYS.get(key) + gap + body + (lot.nextInt(5) == 0 ? "  " : "");
    }

    private String someExpression(String names, int depth) {
        int way = depth <= 0 ? lot.nextInt(2) : lot.nextInt(8);
        if (way == 0) {
            return "" + names.charAt(lot.nextInt(names.length()));
        }
        if (way == 1) {
            return "" + new int[] {0, 1, 2, 9, 10, 99, 1000, 9999}[lot.nextInt(8)];
        }
        if (way == 2) {
            return "!".repeat(1 + lot.nextInt(lot.nextInt(4) == 0 ? 9 : 2)) + someExpression(names, 0);
        }
        if (way == 3) {
            int n = 1 + lot.nextInt(lot.nextInt(4) == 0 ? 9 : 2);
            return "(".repeat(n) + someExpression(names, depth - 1) + ")".repeat(n);
        }
        String gap = lot.nextInt(4) == 0 ? " " : "";
        return someExpression(names, depth - 1) + gap + "|&<=>+-*/-*".charAt(lot.nextInt(11)) + gap
            + someExpression(names, depth - 1);
    }

    private String spoilt(String text) {
        StringBuilder b = new StringBuilder(text);
        int times = 1 + lot.nextInt(2);
        for (int i = 0; i < times && b.length() > 0; i++) {
            int at = lot.nextInt(b.length());
            char c = "dmlctofx019 ()!|&<=>+-*/AZ{`:~\u0000\u00e9\u007f".charAt(lot.nextInt(33));
            switch (lot.nextInt(4)) {
                case 0 -> b.deleteCharAt(at);
                case 1 -> b.insert(at, c);
                case 2 -> b.setCharAt(at, c);
                default -> b.setLength(at);
            }
        }
        return b.toString();
    }

    private void tellSteps() throws Exception {
        if (m.image == null || lot.nextInt(3) == 0) {
            both("keep");
        }
        if (!m.waiting.isEmpty()) {
            both("check", 0);
        }
        int n = 1 + lot.nextInt(lot.nextInt(4) == 0 ? 30 : 5);
        List<Integer> due = m.stepsTold(n);
        int way = lot.nextInt(5);
        if (way == 0 && !due.isEmpty()) {
            due.set(lot.nextInt(due.size()), lot.nextInt(5));
        } else if (way == 1 && !due.isEmpty()) {
            due.remove(due.size() - 1);
        } else if (way == 2) {
            due.add(lot.nextInt(3));
        }
        for (int v : due) {
            both("tell", v);
        }
        both("check", n);
    }

    private void makeSheet() throws Exception {
        int sheet = lot.nextInt(4);
        int n = 1 + lot.nextInt(6);
        both("sheet", sheet, lot.nextInt(2), n);
        for (int i = 0; i < n; i++) {
            both("mark", sheet, i, lot.nextInt(12) == 0 ? Model.NONE : lot.nextInt(38));
        }
    }

    private void both(String name, int... args) throws Exception {
        Object[] boxed = new Object[args.length];
        for (int i = 0; i < args.length; i++) {
            boxed[i] = args[i];
        }
        int got = (Integer) real.get(name).invoke(x, boxed);
        int want = (Integer) modelled.get(name).invoke(m, boxed);
        calls++;
        log.add(name + java.util.Arrays.toString(args) + " " + want);
        if (got != want) {
            System.out.println(String.join("\n", log.subList(Math.max(0, log.size() - 12), log.size())));
        }
        dues.due(name + java.util.Arrays.toString(args) + " (call " + calls + ")", got, want);
        seen.merge(name + " " + nameOf(want), 1, Integer::sum);
    }

    private static String nameOf(int answer) {
        return switch (answer) {
            case Model.BAD -> "BAD";
            case Model.NO -> "NO";
            case Model.FULL -> "FULL";
            case Model.NONE -> "NONE";
            case Model.NOTHING -> "NOTHING";
            case Model.KIND -> "KIND";
            case Model.INDEX -> "INDEX";
            case Model.SIZE -> "SIZE";
            default -> answer > 0 ? "above 0" : answer == 0 ? "0" : "below 0";
        };
    }

    /** The runs are of use only if they come upon each refusal that a promise names. */
    private void everyRefusalSeen() {
        String named = "run BAD FULL,told BAD,as BAD KIND,turns BAD,set BAD,passes BAD,tells BAD,deal BAD,rule BAD,"
            + "build NO,probe BAD NO,drill BAD NO,steps BAD,house BAD NONE,chance BAD NONE,risk BAD NONE,"
            + "where BAD NOTHING NONE,safe BAD NONE,learn BAD NOTHING NONE,worthiest BAD NOTHING NONE,"
            + "fits BAD NOTHING NONE,behind BAD NONE,when NONE,slipped BAD NO,fine BAD,feed FULL,trim BAD,"
            + "textTold BAD,why BAD NONE,sheet BAD SIZE,mark BAD NOTHING INDEX KIND,pour BAD NOTHING,"
            + "reads BAD NOTHING NONE,copy BAD NOTHING KIND INDEX,lay BAD NOTHING,ask BAD NOTHING KIND,"
            + "item BAD NOTHING KIND INDEX,rest BAD NOTHING KIND NO,tell FULL,check BAD NO,back NO,count BAD,text FULL";
        for (String row : named.split(",")) {
            String[] words = row.split(" ");
            for (int i = 1; i < words.length; i++) {
                String key = words[0] + " " + words[i];
                dues.dueTrue("the runs came upon " + key, seen.containsKey(key));
            }
        }
    }
}

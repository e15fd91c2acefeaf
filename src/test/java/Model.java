import java.math.BigInteger;
import java.util.ArrayDeque;
import java.util.ArrayList;
import java.util.Deque;
import java.util.List;

/** The document again, written another way: slow, with the Java library, to hold BehindWall's answers against. */
final class Model {
    static final int BAD = -1000000001, NO = -1000000002, FULL = -1000000003, NONE = -1000000005,
        NOTHING = -1000000011, KIND = -1000000012, INDEX = -1000000013, SIZE = -1000000014;

    // ---- the KINDS, as classes under one another

    static class Way {
        final World world;
        final int cell, likely, deep, odds;

        Way(World world, int cell, int likely, int deep, int odds) {
            this.world = world;
            this.cell = cell;
            this.likely = likely;
            this.deep = deep;
            this.odds = odds;
        }

        int row() { return cell / 6; }

        int column() { return cell % 6; }

        boolean passes(int c) { return c % 6 == column() && c / 6 >= row(); }

        boolean knock(int c) { return false; }

        boolean beep(int c) { return passes(c); }

        boolean feel(int c) { return false; }

        boolean hole(int c) { return passes(c); }

        final boolean tells(int sort, int c) {
            return sort == 0 ? knock(c) : sort == 1 ? beep(c) : sort == 2 ? feel(c) : hole(c);
        }

        int hurt() {
            String law = world.law("hurt");
            int given = law == null ? deep : Law.value(law, "dml", deep, world.mains, likely);
            return given < 0 ? 0 : given > 99 ? 99 : given;
        }

        int worth() { return deep; }
    }

    static class Cable extends Way {
        Cable(World w, int c, int l, int d, int o) { super(w, c, l, d, o); }

        @Override int hurt() { return super.hurt() * 2; }

        @Override int worth() { return super.worth() + 9; }
    }

    static class Aslant extends Cable {
        Aslant(World w, int c, int l, int d, int o) { super(w, c, l, d, o); }

        @Override boolean passes(int c) {
            int at = cell;
            while (at < 36) {
                if (at == c) {
                    return true;
                }
                at += at % 6 == 5 ? 6 : 7;
            }
            return false;
        }

        @Override int hurt() { return super.hurt() + 1; }

        @Override int worth() { return super.worth() * 2; }
    }

    static class Pipe extends Way {
        Pipe(World w, int c, int l, int d, int o) { super(w, c, l, d, o); }

        @Override boolean passes(int c) { return c >= cell && c < (row() + 1) * 6; }

        @Override boolean knock(int c) { return passes(c) && deep <= 3; }

        @Override boolean beep(int c) { return deep <= 6 && super.beep(c); }

        @Override boolean feel(int c) { return passes(c); }

        @Override int hurt() { return super.hurt() + 9; }

        @Override int worth() { return 99 - deep; }
    }

    static class Bend extends Pipe {
        Bend(World w, int c, int l, int d, int o) { super(w, c, l, d, o); }

        @Override boolean passes(int c) { return super.passes(c) || c % 6 == 5 && c / 6 > row(); }

        @Override int hurt() { return Math.max(super.hurt() - 2, 0); }

        @Override int worth() { return super.worth() - 5; }
    }

    static class Stud extends Way {
        Stud(World w, int c, int l, int d, int o) { super(w, c, l, d, o); }

        @Override boolean passes(int c) { return c % 6 == column() || Math.abs(c % 6 - column()) == 3; }

        @Override boolean knock(int c) { return passes(c); }

        @Override boolean beep(int c) { return c / 6 % 2 == 0 && super.beep(c); }

        @Override int hurt() { return 1; }

        @Override int worth() { return 2; }
    }

    static Way way(World w, int kind, int c, int l, int d, int o) {
        return switch (kind) {
            case 0 -> new Way(w, c, l, d, o);
            case 1 -> new Cable(w, c, l, d, o);
            case 2 -> new Pipe(w, c, l, d, o);
            case 3 -> new Aslant(w, c, l, d, o);
            case 4 -> new Bend(w, c, l, d, o);
            default -> new Stud(w, c, l, d, o);
        };
    }

    static final List<Class<? extends Way>> CLASSES =
        List.of(Way.class, Cable.class, Pipe.class, Aslant.class, Bend.class, Stud.class);

    // ---- what an IMAGE keeps

    static final class World {
        List<Way> runs = new ArrayList<>();
        List<String> texts = new ArrayList<>();
        int built = -1, slip = 10, mains = 1, step = 0, z = 1;
        int cost, hits, holes, tests, slips, minutes, forgot;

        World twin() {
            World t = new World();
            for (Way r : runs) {
                t.runs.add(way(t, CLASSES.indexOf(r.getClass()), r.cell, r.likely, r.deep, r.odds));
            }
            t.texts.addAll(texts);
            t.built = built;
            t.slip = slip;
            t.mains = mains;
            t.step = step;
            t.z = z;
            t.cost = cost;
            t.hits = hits;
            t.holes = holes;
            t.tests = tests;
            t.slips = slips;
            t.minutes = minutes;
            t.forgot = forgot;
            return t;
        }

        String law(String key) {
            int at = lawNumber(key);
            return at < 0 ? null : texts.get(at).trim().substring(key.length());
        }

        int lawNumber(String key) {
            for (int i = texts.size() - 1; i >= 0; i--) {
                if (Law.keyOf(texts.get(i)).equals(key)) {
                    return i;
                }
            }
            return -1;
        }

        int draw() {
            z = z * 1103515245 + 12345;
            return z >>> 8;
        }

        void change(int i, int kind, int c, int l, int d, int o) {
            runs.set(i, way(this, kind, c, l, d, o));
        }

        void odds(int i, long o) {
            Way r = runs.get(i);
            change(i, CLASSES.indexOf(r.getClass()), r.cell, r.likely, r.deep, (int) o);
        }

        void build() {
            int total = runs.stream().mapToInt(r -> r.likely).sum();
            int rest = draw() % total;
            int upTo = 0;
            for (int i = 0; i < runs.size(); i++) {
                upTo += runs.get(i).likely;
                if (upTo > rest) {
                    built = i;
                    return;
                }
            }
        }

        boolean test(int sort, int cell) {
            boolean says = runs.get(built).tells(sort, cell);
            if (sort < 3) {
                if (draw() % 100 < slip) {
                    says = !says;
                    slips++;
                }
            }
            tests++;
            minutes += sort == 0 ? 1 : sort == 1 ? 2 : sort == 2 ? 3 : 9;
            for (int i = 0; i < runs.size(); i++) {
                Way r = runs.get(i);
                boolean same = r.tells(sort, cell) == says;
                if (sort == 3) {
                    odds(i, same ? r.odds : 0);
                } else {
                    odds(i, (long) r.odds * (same ? 100 - slip : slip) / 100);
                }
            }
            if (runs.stream().allMatch(r -> r.odds == 0)) {
                for (int i = 0; i < runs.size(); i++) {
                    odds(i, runs.get(i).likely * 1000L);
                }
                forgot++;
            }
            return says;
        }

        void step() {
            if (!runs.isEmpty() && built < 0) {
                build();
            } else if (!runs.isEmpty()) {
                int sort = draw() % 4;
                int cell = draw() % 36;
                test(sort, cell);
            }
            step++;
        }

        int best() {
            int best = -1;
            for (int i = runs.size() - 1; i >= 0; i--) {
                if (best < 0 || runs.get(i).odds >= runs.get(best).odds) {
                    best = i;
                }
            }
            return best;
        }

        BigInteger all() {
            return BigInteger.valueOf(runs.stream().mapToLong(r -> r.odds).sum());
        }

        boolean known() {
            return built >= 0 && all().multiply(BigInteger.valueOf(900))
                .compareTo(BigInteger.valueOf(1000L * runs.get(built).odds)) <= 0;
        }

        BigInteger loss(int cell, int depth) {
            BigInteger sum = BigInteger.ZERO;
            for (Way r : runs) {
                if (r.passes(cell) && r.deep <= depth) {
                    sum = sum.add(BigInteger.valueOf(r.odds).multiply(BigInteger.valueOf(r.hurt())));
                }
            }
            return sum;
        }

        BigInteger lossIf(int cell, int depth, int sort, int at, boolean told) {
            BigInteger sum = BigInteger.ZERO;
            for (Way r : runs) {
                if (r.passes(cell) && r.deep <= depth) {
                    int right = sort == 3 ? 100 : 100 - slip;
                    int of = r.tells(sort, at) == told ? right : 100 - right;
                    sum = sum.add(BigInteger.valueOf((long) r.odds * of).multiply(BigInteger.valueOf(r.hurt())));
                }
            }
            return sum;
        }

        int thousand(BigInteger part) {
            return part.multiply(BigInteger.valueOf(1000)).divide(all()).intValueExact();
        }
    }

    // ---- TEXTS: a machine of two states finds the FAULT, cutting at the loosest sign gives the value

    static final class Law {
        static String keyOf(String text) {
            String t = text.trim();
            int n = 0;
            while (n < t.length() && Character.isLowerCase(t.charAt(n))) {
                n++;
            }
            return t.substring(0, n);
        }

        static List<int[]> words(String s) {
            List<int[]> words = new ArrayList<>();
            java.util.regex.Matcher m = java.util.regex.Pattern.compile("[a-z]+|[0-9]+|[^ ]",
                java.util.regex.Pattern.DOTALL).matcher(s);
            while (m.find()) {
                words.add(new int[] {m.start(), m.end()});
            }
            return words;
        }

        /** The place of the FAULT, or -1. */
        static int fault(String s) {
            boolean operand = true;
            boolean compared = false;
            int nots = 0;
            Deque<Object[]> open = new ArrayDeque<>();
            String names = null;
            int lastEnd = -1;
            for (int[] w : words(s)) {
                String word = s.substring(w[0], w[1]);
                boolean isWord = word.matches("[a-z]+|[0-9]+");
                if (isWord && w[0] == lastEnd) {
                    return w[0];
                }
                lastEnd = isWord ? w[1] : -1;
                if (names == null) {
                    names = switch (word) {
                        case "hurt" -> "dml";
                        case "fee" -> "ct";
                        case "fine" -> "od";
                        default -> null;
                    };
                    if (names == null) {
                        return w[0];
                    }
                    continue;
                }
                int outer = open.isEmpty() ? 0 : (Integer) open.peek()[1];
                if (operand) {
                    if (word.matches("[0-9]{1,4}") || word.length() == 1 && names.contains(word)) {
                        operand = false;
                        nots = outer;
                    } else if (word.equals("!") && nots < 8) {
                        nots++;
                    } else if (word.equals("(") && open.size() < 8) {
                        open.push(new Object[] {compared, nots});
                        compared = false;
                    } else {
                        return w[0];
                    }
                } else if (word.matches("[-+*/]")) {
                    operand = true;
                } else if (word.matches("[&|]")) {
                    operand = true;
                    compared = false;
                } else if (word.matches("[<=>]") && !compared) {
                    operand = true;
                    compared = true;
                } else if (word.equals(")") && !open.isEmpty()) {
                    compared = (Boolean) open.pop()[0];
                    nots = open.isEmpty() ? 0 : (Integer) open.peek()[1];
                } else {
                    return w[0];
                }
            }
            return names == null || operand || !open.isEmpty() ? s.length() : -1;
        }

        static int atoms(String s) {
            return (int) words(s).stream().map(w -> s.substring(w[0], w[1]))
                .filter(w -> w.matches("[a-z]|[0-9]+")).count();
        }

        static int value(String law, String names, int... values) {
            String s = law.replace(" ", "");
            for (String level : new String[] {"|", "&", "<=>", "+-", "*/"}) {
                int depth = 0;
                for (int i = s.length() - 1; i >= 0; i--) {
                    char c = s.charAt(i);
                    depth += c == ')' ? 1 : c == '(' ? -1 : 0;
                    if (depth == 0 && level.indexOf(c) >= 0) {
                        int a = value(s.substring(0, i), names, values);
                        int b = value(s.substring(i + 1), names, values);
                        return joined(c, a, b);
                    }
                }
            }
            if (s.charAt(0) == '!') {
                return value(s.substring(1), names, values) == 0 ? 1 : 0;
            }
            if (s.charAt(0) == '(') {
                return value(s.substring(1, s.length() - 1), names, values);
            }
            if (Character.isDigit(s.charAt(0))) {
                return Integer.parseInt(s);
            }
            return values[names.indexOf(s)];
        }

        static int joined(char c, int a, int b) {
            return switch (c) {
                case '|' -> (a == 0 ? 0 : 1) | (b == 0 ? 0 : 1);
                case '&' -> (a == 0 ? 0 : 1) & (b == 0 ? 0 : 1);
                case '<' -> a < b ? 1 : 0;
                case '=' -> a == b ? 1 : 0;
                case '>' -> a > b ? 1 : 0;
                case '+' -> (int) ((long) a + b);
                case '-' -> (int) ((long) a - b);
                case '*' -> (int) ((long) a * b);
                default -> b == 0 ? 0 : (int) ((long) a / b);
            };
        }
    }

    // ---- the object

    World w = new World();
    World image = null;
    final Object[] sheets = new Object[4];
    final Object[] slots = new Object[5];
    final int[] slotKinds = new int[5];
    final List<Integer> waiting = new ArrayList<>();
    String tape = "";

    static boolean in(int v, int a, int b) { return v >= a && v <= b; }

    boolean isRun(int r) { return in(r, 0, w.runs.size() - 1); }

    static int kindOf(Way r) { return CLASSES.indexOf(r.getClass()); }

    int run(int kind, int cell, int likely, int deep) {
        if (!in(kind, 0, 5) || !in(cell, 0, 35) || !in(likely, 1, 99) || !in(deep, 1, 9)) return BAD;
        if (w.runs.size() == 10) return FULL;
        w.runs.add(way(w, kind, cell, likely, deep, 1000 * likely));
        return w.runs.size() - 1;
    }

    int told(int run, int what) {
        if (!isRun(run) || !in(what, 0, 7)) return BAD;
        Way r = w.runs.get(run);
        int many = 0;
        for (int c = 0; c < 36; c++) many += r.passes(c) ? 1 : 0;
        return new int[] {kindOf(r), r.cell, r.likely, r.deep, r.odds, r.hurt(), many, r.worth()}[what];
    }

    int as(int run, int kind) {
        if (!isRun(run) || !in(kind, 0, 5)) return BAD;
        return CLASSES.get(kind).isInstance(w.runs.get(run)) ? w.runs.get(run).deep : KIND;
    }

    int turns(int run, int kind) {
        if (!isRun(run) || !in(kind, 0, 5)) return BAD;
        Way r = w.runs.get(run);
        w.change(run, kind, r.cell, r.likely, r.deep, r.odds);
        return kindOf(r);
    }

    int set(int run, int what, int v) {
        if (!isRun(run) || !in(what, 1, 3)) return BAD;
        if (what == 1 && !in(v, 0, 35) || what == 2 && !in(v, 1, 99) || what == 3 && !in(v, 1, 9)) return BAD;
        Way r = w.runs.get(run);
        w.change(run, kindOf(r), what == 1 ? v : r.cell, what == 2 ? v : r.likely, what == 3 ? v : r.deep, r.odds);
        return what == 1 ? r.cell : what == 2 ? r.likely : r.deep;
    }

    int passes(int run, int row) {
        if (!isRun(run) || !in(row, 0, 5)) return BAD;
        int bits = 0;
        for (int c = 0; c < 6; c++) if (w.runs.get(run).passes(row * 6 + c)) bits += 1 << c;
        return bits;
    }

    int tells(int run, int sort, int cell) {
        if (!isRun(run) || !in(sort, 0, 3) || !in(cell, 0, 35)) return BAD;
        return w.runs.get(run).tells(sort, cell) ? 1 : 0;
    }

    int deal(int n) {
        if (!in(n, 1, 10)) return BAD;
        int came = 0;
        while (came < n && w.runs.size() < 10) {
            int kind = w.draw() % 6, cell = w.draw() % 36, likely = 1 + w.draw() % 40, deep = 1 + w.draw() % 9;
            run(kind, cell, likely, deep);
            came++;
        }
        return came;
    }

    int seed(int v) {
        int was = w.z;
        w.z = v;
        return was;
    }

    int rule(int what, int v) {
        if (!in(what, 0, 1) || v < 0 || v > (what == 0 ? 49 : 1)) return BAD;
        int was = what == 0 ? w.slip : w.mains;
        if (what == 0) w.slip = v; else w.mains = v;
        return was;
    }

    int build() {
        if (w.runs.isEmpty()) return NO;
        w.build();
        return w.runs.size();
    }

    int probe(int sort, int cell) {
        if (!in(sort, 0, 3) || !in(cell, 0, 35)) return BAD;
        if (w.built < 0) return NO;
        return w.test(sort, cell) ? 1 : 0;
    }

    int drill(int cell, int depth) {
        if (!in(cell, 0, 35) || !in(depth, 1, 9)) return BAD;
        if (w.built < 0) return NO;
        w.holes++;
        Way r = w.runs.get(w.built);
        if (!r.passes(cell) || r.deep > depth) return 0;
        w.hits++;
        w.cost += r.hurt();
        return r.hurt();
    }

    int steps(int n) {
        if (!in(n, 1, 100)) return BAD;
        int before = w.slips;
        for (int i = 0; i < n && w.step < 9999; i++) w.step();
        return w.slips - before;
    }

    int house(int what) {
        return switch (what) {
            case 0 -> w.cost;
            case 1 -> w.hits;
            case 2 -> w.holes;
            case 3 -> w.tests;
            case 4 -> w.slips;
            case 5 -> w.minutes;
            case 6 -> w.forgot;
            case 7 -> w.built >= 0 ? 1 : 0;
            case 8 -> w.runs.isEmpty() ? NONE : w.best();
            case 9 -> w.known() ? 1 : 0;
            default -> BAD;
        };
    }

    int chance(int cell) {
        if (!in(cell, 0, 35)) return BAD;
        if (w.runs.isEmpty()) return NONE;
        long part = w.runs.stream().filter(r -> r.passes(cell)).mapToLong(r -> r.odds).sum();
        return w.thousand(BigInteger.valueOf(part));
    }

    int risk(int cell, int depth) {
        if (!in(cell, 0, 35) || !in(depth, 1, 9)) return BAD;
        return w.runs.isEmpty() ? NONE : w.thousand(w.loss(cell, depth));
    }

    /** The numbers of a SHEET, null for NO NUMBER; null without one. */
    List<Integer> places(Object sheet) {
        if (sheet == null) return null;
        List<Integer> list = new ArrayList<>();
        if (sheet instanceof short[] s) for (short v : s) list.add((int) v);
        if (sheet instanceof float[] f) for (float v : f) list.add(Float.isNaN(v) ? null : Integer.valueOf((int) v));
        return list;
    }

    List<Integer> wished(int sheet) {
        List<Integer> cells = new ArrayList<>();
        for (Integer p : places(sheets[sheet])) if (p != null && in(p, 0, 35)) cells.add(p);
        return cells;
    }

    int planRefusal(int sheet, int depth, boolean restGood) {
        if (!in(sheet, 0, 3) || !in(depth, 1, 9) || !restGood) return BAD;
        if (sheets[sheet] == null) return NOTHING;
        return wished(sheet).isEmpty() || w.runs.isEmpty() ? NONE : 0;
    }

    int bestWished(int sheet, int depth) {
        int best = -1;
        for (int c : wished(sheet)) {
            if (best < 0 || w.loss(c, depth).compareTo(w.loss(best, depth)) < 0) best = c;
        }
        return best;
    }

    int where(int sheet, int depth, int what) {
        int refusal = planRefusal(sheet, depth, in(what, 0, 1));
        if (refusal != 0) return refusal;
        int best = bestWished(sheet, depth);
        return what == 0 ? best : w.thousand(w.loss(best, depth));
    }

    int safe(int cell, int most) {
        if (!in(cell, 0, 35) || !in(most, 0, 99999)) return BAD;
        if (w.runs.isEmpty()) return NONE;
        int safe = 0;
        for (int d = 0; d <= 9; d++) if (w.thousand(w.loss(cell, d)) <= most) safe = d;
        return safe;
    }

    int learned(int sort, int cell, int sheet, int depth) {
        BigInteger s = BigInteger.ZERO;
        for (boolean told : new boolean[] {true, false}) {
            BigInteger least = null;
            for (int c : wished(sheet)) {
                BigInteger l = w.lossIf(c, depth, sort, cell, told);
                least = least == null || l.compareTo(least) < 0 ? l : least;
            }
            s = s.add(least);
        }
        BigInteger hundred = BigInteger.valueOf(100);
        return w.loss(bestWished(sheet, depth), depth).multiply(hundred).subtract(s)
            .multiply(BigInteger.valueOf(1000)).divide(w.all().multiply(hundred)).intValueExact();
    }

    int learn(int sort, int cell, int sheet, int depth) {
        int refusal = planRefusal(sheet, depth, in(sort, 0, 3) && in(cell, 0, 35));
        return refusal != 0 ? refusal : learned(sort, cell, sheet, depth);
    }

    int worthiest(int sheet, int depth, int what) {
        int refusal = planRefusal(sheet, depth, in(what, 0, 2));
        if (refusal != 0) return refusal;
        int[] best = null;
        for (int k = 0; k < 144; k++) {
            int l = learned(k / 36, k % 36, sheet, depth);
            if (best == null || l > best[2]) best = new int[] {k / 36, k % 36, l};
        }
        return best[what];
    }

    int fits(int sheet, int what) {
        if (!in(sheet, 0, 3) || !in(what, 0, 1)) return BAD;
        if (sheets[sheet] == null) return NOTHING;
        if (w.runs.isEmpty()) return NONE;
        int best = -1, most = -1;
        for (int i = 0; i < w.runs.size(); i++) {
            int many = 0;
            for (int c : wished(sheet)) many += w.runs.get(i).passes(c) ? 1 : 0;
            if (many > most) {
                best = i;
                most = many;
            }
        }
        return what == 0 ? best : most;
    }

    int behind(int n, int what) {
        if (!in(n, 0, 100) || what < 0 || what > 2 && !isRun(what - 3)) return BAD;
        if (what == 2 && w.runs.isEmpty()) return NONE;
        World t = w.twin();
        for (int i = 0; i < n; i++) t.step();
        return what == 0 ? t.minutes : what == 1 ? t.slips : what == 2 ? t.best() : t.runs.get(what - 3).odds;
    }

    int when() {
        World t = w.twin();
        int n = 0;
        while (n <= 100 && !t.known()) {
            t.step();
            n++;
        }
        return n > 100 ? NONE : n;
    }

    int slipped(int n, int what) {
        if (!in(n, 1, 30) || !in(what, 0, 1)) return BAD;
        if (w.built < 0) return NO;
        int best = -1, most = -1;
        for (int s = 0; s < 50; s++) {
            World t = w.twin();
            t.slip = s;
            for (int i = 0; i < n; i++) t.step();
            int share = t.thousand(BigInteger.valueOf(t.runs.get(t.built).odds));
            if (share > most) {
                best = s;
                most = share;
            }
        }
        return what == 0 ? best : most;
    }

    int fee() {
        String law = w.law("fee");
        return law == null ? w.cost : Law.value(law, "ct", w.cost, w.tests);
    }

    int fine(int run) {
        if (!isRun(run)) return BAD;
        String law = w.law("fine");
        Way r = w.runs.get(run);
        return law == null ? r.odds : Law.value(law, "od", r.odds, r.deep);
    }

    int feed(int a, int b, int c) {
        if (tape.length() + 12 > 96) return FULL;
        for (byte x : java.nio.ByteBuffer.allocate(12).putInt(a).putInt(b).putInt(c).array()) tape += (char) (x & 255);
        return tape.length();
    }

    int trim(int n) {
        if (!in(n, 0, tape.length())) return BAD;
        tape = tape.substring(0, n);
        return n;
    }

    int text() {
        String t = tape;
        tape = "";
        int fault = Law.fault(t);
        if (fault >= 0) return -100 - fault;
        if (w.texts.size() == 14) return FULL;
        w.texts.add(t);
        return w.texts.size() - 1;
    }

    static final List<String> KEYS = List.of("hurt", "fee", "fine");

    int textTold(int text, int what) {
        if (!in(text, 0, w.texts.size() - 1) || !in(what, 0, 1)) return BAD;
        String t = w.texts.get(text);
        return what == 0 ? KEYS.indexOf(Law.keyOf(t)) : Law.atoms(t);
    }

    int why(int key) {
        if (!in(key, 0, 2)) return BAD;
        int at = w.lawNumber(KEYS.get(key));
        return at < 0 ? NONE : at;
    }

    int sheet(int sheet, int sort, int n) {
        if (!in(sheet, 0, 3) || !in(sort, -1, 1) || sort >= 0 && n > 24) return BAD;
        if (sort >= 0 && n < 0) return SIZE;
        sheets[sheet] = sort < 0 ? null : sort == 0 ? new short[n] : new float[n];
        return sort < 0 ? 0 : n;
    }

    int mark(int sheet, int place, int v) {
        if (!in(sheet, 0, 3)) return BAD;
        if (sheets[sheet] == null) return NOTHING;
        if (!in(place, 0, places(sheets[sheet]).size() - 1)) return INDEX;
        if (sheets[sheet] instanceof short[] s) {
            if (v == NONE) return KIND;
            s[place] = (short) v;
        } else {
            if (v != NONE && Math.abs((long) v) > 99999) return BAD;
            ((float[]) sheets[sheet])[place] = v == NONE ? Float.NaN : v;
        }
        return 1;
    }

    int pour(int sheet) {
        if (!in(sheet, 0, 3)) return BAD;
        if (sheets[sheet] == null) return NOTHING;
        List<Integer> p = places(sheets[sheet]);
        int many = 0;
        for (int i = 0; i < Math.min(p.size(), w.runs.size()); i++) {
            if (p.get(i) == null) continue;
            int v = p.get(i) < 1 ? 1 : p.get(i) > 99 ? 99 : p.get(i);
            if (set(i, 2, v) != v) many++;
        }
        return many;
    }

    int reads(int sheet) {
        if (!in(sheet, 0, 3)) return BAD;
        if (sheets[sheet] == null) return NOTHING;
        List<Integer> p = places(sheets[sheet]);
        for (int i = 0; i < p.size(); i++) {
            if (p.get(i) == null) continue;
            if (!isRun(i) || w.runs.get(i).deep != p.get(i)) return i;
        }
        return NONE;
    }

    int copy(int from, int place, int to, int at, int many) {
        if (!in(from, 0, 3) || !in(to, 0, 3)) return BAD;
        if (sheets[from] == null || sheets[to] == null) return NOTHING;
        try {
            System.arraycopy(sheets[from], place, sheets[to], at, many);
        } catch (ArrayStoreException e) {
            return KIND;
        } catch (IndexOutOfBoundsException e) {
            return INDEX;
        }
        return many;
    }

    int lay(int slot, int thing, int k) {
        if (!in(slot, 0, 4) || !in(thing, 0, 3)) return BAD;
        if (thing == 1 && !isRun(k) || thing == 2 && !in(k, 0, 3)) return BAD;
        if (thing == 2 && sheets[k] == null) return NOTHING;
        int was = slotKinds[slot];
        slotKinds[slot] = thing;
        slots[slot] = switch (thing) {
            case 0 -> null;
            case 1 -> w.runs.get(k);
            case 2 -> places(sheets[k]);
            default -> k;
        };
        return was;
    }

    int ask(int slot, int kind) {
        if (!in(slot, 0, 4) || !in(kind, 0, 5)) return BAD;
        if (slots[slot] == null) return NOTHING;
        return CLASSES.get(kind).isInstance(slots[slot]) ? ((Way) slots[slot]).worth() : KIND;
    }

    int item(int slot, int place) {
        if (!in(slot, 0, 4)) return BAD;
        if (slots[slot] == null) return NOTHING;
        if (!(slots[slot] instanceof List<?> p)) return KIND;
        if (!in(place, 0, p.size() - 1)) return INDEX;
        return p.get(place) == null ? KIND : (Integer) p.get(place);
    }

    int rest(int slot, int n) {
        if (!in(slot, 0, 4)) return BAD;
        if (slots[slot] == null) return NOTHING;
        if (!(slots[slot] instanceof Integer k)) return KIND;
        return n == 0 ? NO : (int) ((long) k % n);
    }

    int tell(int v) {
        if (waiting.size() == 60) return FULL;
        waiting.add(v);
        return waiting.size();
    }

    /** THE STEPS TOLD of n. */
    List<Integer> stepsTold(int n) {
        List<Integer> due = new ArrayList<>();
        World t = image.twin();
        for (int i = 0; i < n && t.step < 9999; i++) {
            t.step();
            due.add(t.minutes);
            due.add(t.best());
        }
        return due;
    }

    int check(int n) {
        List<Integer> got = new ArrayList<>(waiting);
        waiting.clear();
        if (!in(n, 1, 30)) return BAD;
        if (image == null) return NO;
        List<Integer> due = stepsTold(n);
        if (got.equals(due)) return 0;
        int same = 0;
        while (same < got.size() && same < due.size() && got.get(same).equals(due.get(same))) same++;
        return 1 + same;
    }

    int keep() {
        image = w.twin();
        return w.runs.size();
    }

    int back() {
        if (image == null) return NO;
        w = image.twin();
        return w.runs.size();
    }

    int count(int what) {
        if (!in(what, 0, 7)) return BAD;
        return new int[] {w.runs.size(), w.step, w.slip, w.mains, w.texts.size(), waiting.size(), tape.length(), w.z}[what];
    }
}

import java.lang.management.ManagementFactory;
import java.lang.reflect.Constructor;
import java.lang.reflect.Field;
import java.lang.reflect.Member;
import java.lang.reflect.Method;
import java.lang.reflect.Modifier;
import java.nio.charset.StandardCharsets;
import java.nio.file.Files;
import java.nio.file.Path;
import java.util.ArrayList;
import java.util.List;
import java.util.Set;
import java.util.TreeSet;
import java.util.regex.Matcher;
import java.util.regex.Pattern;

/** The rules of LANGUAGE.md that a look at the source, the classes and what is made can tell. */
public final class LanguageTest {
    private static final String FACE = "BehindWall() run(4) told(2) as(2) turns(2) set(3) passes(2) tells(3) deal(1) "
        + "seed(1) rule(2) build(0) probe(2) drill(2) steps(1) house(1) chance(1) risk(2) where(3) safe(2) learn(4) "
        + "worthiest(3) fits(2) behind(2) when(0) slipped(2) fee(0) fine(1) feed(3) trim(1) text(0) textTold(2) "
        + "why(1) sheet(3) mark(3) pour(1) reads(1) copy(5) lay(3) ask(2) item(2) rest(2) tell(1) check(1) keep(0) "
        + "back(0) count(1) BAD NO FULL NONE NOTHING KIND INDEX SIZE";
    private static final Set<String> LIBRARY = Set.of("Math.min", "Math.max", "Math.abs", "Long.bitCount",
        "Arrays.fill", "Arrays.copyOf", "System.arraycopy");

    private final Dues d = new Dues();

    public static void main(String[] args) throws Exception {
        LanguageTest t = new LanguageTest();
        String source = Files.readString(Path.of("src/main/java/BehindWall.java"), StandardCharsets.ISO_8859_1);
        t.face();
        t.nested();
        t.words(bare(source));
        t.library(bare(source));
        t.lengths(bare(source));
        t.whatIsMade();
        t.d.end("LanguageTest");
    }

    /** The source without comments and without what stands in texts and signs. */
    private static String bare(String source) {
        String noComments = source.replaceAll("(?s)/\\*.*?\\*/", "").replaceAll("//[^\n]*", "");
        return noComments.replaceAll("\"[^\"\n]*\"", "\"\"").replaceAll("'[^'\n]'", "' '");
    }

    private void face() {
        Set<String> due = new TreeSet<>(List.of(FACE.split(" ")));
        Set<String> got = new TreeSet<>();
        for (Constructor<?> c : BehindWall.class.getDeclaredConstructors()) {
            got.add("BehindWall()" + (Modifier.isPublic(c.getModifiers()) ? "" : "!"));
        }
        for (Method m : BehindWall.class.getDeclaredMethods()) {
            if (!Modifier.isPrivate(m.getModifiers())) {
                got.add(m.getName() + "(" + m.getParameterCount() + ")" + (isFace(m) ? "" : "!"));
            } else {
                d.dueTrue("rule 1: no private " + m.getName(), !FACE.contains(" " + m.getName() + "("));
            }
        }
        for (Field f : BehindWall.class.getDeclaredFields()) {
            if (!Modifier.isPrivate(f.getModifiers())) {
                got.add(f.getName() + (isFace(f) && Modifier.isFinal(f.getModifiers()) ? "" : "!"));
            }
        }
        d.dueTrue("rule 1: the face is " + got, got.equals(due));
        d.dueTrue("rule 1: final", Modifier.isFinal(BehindWall.class.getModifiers()));
    }

    private static boolean isFace(Member m) {
        return Modifier.isPublic(m.getModifiers()) && Modifier.isStatic(m.getModifiers()) == (m instanceof Field);
    }

    private void nested() {
        List<Class<?>> classes = new ArrayList<>(List.of(BehindWall.class.getDeclaredClasses()));
        d.dueTrue("rule 11: at most twelve classes", classes.size() < 12);
        for (Class<?> c : classes) {
            d.dueTrue("rule 1: static " + c, Modifier.isStatic(c.getModifiers()) && !Modifier.isPublic(c.getModifiers()));
            for (Method m : c.getDeclaredMethods()) {
                d.dueTrue("rule 1: " + m, !FACE.contains(" " + m.getName() + "("));
                d.dueTrue("rule 11: at most seven parameters " + m, m.getParameterCount() <= 7);
            }
        }
        classes.add(BehindWall.class);
        for (Class<?> c : classes) {
            int fields = 0;
            for (Field f : c.getDeclaredFields()) {
                fields += Modifier.isStatic(f.getModifiers()) ? 0 : 1;
                d.dueTrue("rule 5: static is final " + f,
                    !Modifier.isStatic(f.getModifiers()) || Modifier.isFinal(f.getModifiers()));
            }
            d.dueTrue("rule 11: some twenty fields " + c, fields <= 20);
        }
    }

    private void words(String source) {
        for (String word : "throw throws try catch finally synchronized assert hashCode toString Exact package".split(" ")) {
            d.dueTrue("rule 6: no " + word, !Pattern.compile("\\b" + word + "\\b").matcher(source).find());
        }
        d.dueTrue("rule 4: no Exact", !source.contains("Exact("));
        d.dueTrue("rule 2: no lambda", !source.contains("->") && !source.contains("::"));
        d.dueTrue("rule 10: no texts joined by +", !source.matches("(?s).*(\"\"\\s*\\+|\\+\\s*\"\").*"));
        d.dueTrue("rule 5: no static block", !source.matches("(?s).*static\\s*\\{.*"));
        d.dueTrue("rule 4: one import", source.split("import ").length == 2 && source.contains("import java.util.Arrays;"));
    }

    private void library(String source) {
        Matcher m = Pattern.compile("\\b(Math|Long|Integer|Arrays|System|String|StringBuilder|Character)\\.(\\w+)")
            .matcher(source);
        while (m.find()) {
            d.dueTrue("rule 4: " + m.group(), LIBRARY.contains(m.group()));
        }
    }

    private void lengths(String source) {
        String[] lines = source.split("\n");
        for (int i = 0; i < lines.length; i++) {
            String indent = lines[i].substring(0, lines[i].length() - lines[i].stripLeading().length());
            if (!lines[i].endsWith(") {") || indent.length() > 8 || lines[i].strip().startsWith("if ")) {
                continue;
            }
            int end = i;
            while (!lines[end].equals(indent + "}")) {
                end++;
            }
            d.dueTrue("rule 11: a short method at line " + (i + 1), end - i < 60);
        }
    }

    /** Calls make nothing but TEXTS, so that 512 of any stay far below the room there is. */
    private void whatIsMade() {
        com.sun.management.ThreadMXBean threads = (com.sun.management.ThreadMXBean) ManagementFactory.getThreadMXBean();
        long me = Thread.currentThread().getId();
        dearest();
        long before = threads.getThreadAllocatedBytes(me);
        dearest();
        long made = threads.getThreadAllocatedBytes(me) - before;
        d.dueTrue("rule 12: " + made + " bytes made by 512 calls", made < 100_000);
    }

    private static void dearest() {
        BehindWall x = new BehindWall();
        x.deal(10);
        x.build();
        x.sheet(0, 0, 24);
        for (int i = 0; i < 24; i++) {
            x.mark(0, i, i);
        }
        for (int i = 0; i < 60; i++) {
            x.steps(3);
            x.worthiest(0, 9, 2);
            x.slipped(30, 1);
            x.keep();
            x.when();
            x.behind(100, 0);
            x.check(30);
            x.back();
        }
    }
}

import java.lang.reflect.Method;
import java.nio.charset.StandardCharsets;
import java.nio.file.Files;
import java.nio.file.Path;
import java.util.Map;
import java.util.Set;
import java.util.TreeMap;
import java.util.TreeSet;
import java.util.regex.Matcher;
import java.util.regex.Pattern;

/** README.md tells each call with its parameters, and its examples answer what stands behind them. */
public final class ReadmeTest {
    private static final Pattern EXAMPLES = Pattern.compile("(?s)```java\n(.*?)```");
    private static final Pattern CALL = Pattern.compile("x\\.(\\w+)\\(([^)]*)\\); +// (-?\\w+)(:.*)?");
    private static final Pattern ROW = Pattern.compile("(?m)^\\| `(\\w+)\\(([^)]*)\\)` \\|");

    private final Dues d = new Dues();
    private final Map<String, Method> face = new TreeMap<>();
    private BehindWall x;

    public static void main(String[] args) throws Exception {
        ReadmeTest t = new ReadmeTest();
        for (Method m : BehindWall.class.getDeclaredMethods()) {
            if (java.lang.reflect.Modifier.isPublic(m.getModifiers())) {
                t.face.put(m.getName(), m);
            }
        }
        String readme = Files.readString(Path.of("README.md"), StandardCharsets.UTF_8);
        String document = Files.readString(Path.of("../shared/DOC.md"), StandardCharsets.UTF_8);
        t.rows(readme, document);
        t.examples(readme);
        t.d.end("ReadmeTest");
    }

    /** Each call of the face has a row, with the parameters as the document names them. */
    private void rows(String readme, String document) {
        Set<String> told = new TreeSet<>();
        Matcher row = ROW.matcher(readme);
        while (row.find()) {
            String name = row.group(1);
            d.dueTrue(name + " is told once", told.add(name));
            StringBuilder signature = new StringBuilder("    public int " + name + "(");
            String[] parameters = row.group(2).isEmpty() ? new String[0] : row.group(2).split(", ");
            for (int i = 0; i < parameters.length; i++) {
                signature.append(i == 0 ? "int " : ", int ").append(parameters[i]);
            }
            d.dueTrue(signature + ");", document.contains(signature + ");\n"));
        }
        d.dueTrue("each call is told: " + told, told.equals(face.keySet()));
    }

    private void examples(String readme) throws Exception {
        int many = 0;
        Matcher block = EXAMPLES.matcher(readme);
        while (block.find()) {
            x = null;
            for (String line : block.group(1).split("\n")) {
                many += example(line);
            }
        }
        d.dueTrue("examples were found: " + many, many > 50);
    }

    private int example(String line) throws Exception {
        if (line.equals("BehindWall x = new BehindWall();")) {
            x = new BehindWall();
            return 0;
        }
        Matcher call = CALL.matcher(line);
        if (x == null || !call.matches() || !face.containsKey(call.group(1))) {
            d.dueTrue("an example: " + line, false);
            return 0;
        }
        String[] words = call.group(2).isEmpty() ? new String[0] : call.group(2).split(", ");
        Object[] numbers = new Object[words.length];
        for (int i = 0; i < words.length; i++) {
            numbers[i] = number(words[i]);
        }
        d.due(line, (Integer) face.get(call.group(1)).invoke(x, numbers), number(call.group(3)));
        return 1;
    }

    private static int number(String word) throws Exception {
        String name = word.replace("BehindWall.", "");
        return Character.isUpperCase(name.charAt(0)) ? BehindWall.class.getField(name).getInt(null) : Integer.decode(name);
    }
}

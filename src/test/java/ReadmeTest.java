import java.io.IOException;
import java.lang.reflect.Method;
import java.lang.reflect.Modifier;
import java.nio.file.Files;
import java.nio.file.Path;
import java.util.HashMap;
import java.util.List;
import java.util.Map;
import java.util.Set;
import java.util.TreeSet;
import java.util.regex.Matcher;
import java.util.regex.Pattern;

/** Makes the calls that README.md tells, in their order on one object: each answers what stands there. */
public final class ReadmeTest {
    private static final Pattern TEXT = Pattern.compile("String text = \"([^\"]*)\";");
    private static final Pattern CALL = Pattern.compile("floor\\.(\\w+)\\(([-\\d, ]*)\\);\\s*// (-?\\d+)\\b.*");
    private static final Pattern BESIDE = Pattern.compile("`floor\\.(\\w+)\\(([-\\d, ]*)\\)` above");
    private static final Pattern REFUSAL = Pattern.compile("\\| (-\\d) +\\| `([A-Z]+)` .*");
    /** The lines that feed the text; every other line of a java block must tell an answer. */
    private static final Set<String> FEEDING = Set.of("ShopFloor floor = new ShopFloor();",
            "for (int i = 0; i < text.length(); i++) {", "floor.feed(text.charAt(i));", "}");

    private static final ShopFloor FLOOR = new ShopFloor();
    private static final Map<String, Method> FACE = new HashMap<>();
    private static final Set<String> UNTOLD = new TreeSet<>();
    private static String shop = "";

    public static void main(String[] args) throws IOException, ReflectiveOperationException {
        for (Method m : ShopFloor.class.getDeclaredMethods()) {
            if (Modifier.isPublic(m.getModifiers())) FACE.put(m.getName(), m);
        }
        UNTOLD.addAll(FACE.keySet());
        UNTOLD.remove("feed");
        List<String> lines = Files.readAllLines(Path.of("README.md"));
        blocks(lines);
        refusals(lines);
        Check.due("calls that README.md does not tell: " + UNTOLD, UNTOLD.size(), 0);
        Check.end();
    }

    private static void blocks(List<String> lines) throws ReflectiveOperationException {
        String block = "";
        StringBuilder drawn = new StringBuilder();
        for (String line : lines) {
            if (line.startsWith("```")) {
                if (block.equals("text")) Check.due("the chart is as drawn", drawn.toString().equals(chart()) ? 1 : 0, 1);
                block = block.isEmpty() ? line.substring(3) : "";
            } else if (block.equals("java")) {
                run(line.strip());
            } else if (block.equals("text")) {
                drawn.append(line).append('\n');
            }
        }
    }

    private static void run(String line) throws ReflectiveOperationException {
        Matcher text = TEXT.matcher(line);
        Matcher call = CALL.matcher(line);
        if (text.matches()) {
            shop = text.group(1);
            Check.feed(FLOOR, shop);
        } else if (call.matches()) {
            Check.due(line, answer(call.group(1), call.group(2)), Integer.parseInt(call.group(3)));
            UNTOLD.remove(call.group(1));
        } else {
            Check.due("\"" + line + "\" tells an answer", FEEDING.contains(line) ? 1 : 0, 1);
        }
    }

    /** The names of the refusals, and the calls that are told as examples of them. */
    private static void refusals(List<String> lines) throws ReflectiveOperationException {
        int told = 0;
        for (String line : lines) {
            Matcher row = REFUSAL.matcher(line);
            if (!row.matches()) continue;
            told++;
            int refusal = Integer.parseInt(row.group(1));
            Check.due(row.group(2), ShopFloor.class.getField(row.group(2)).getInt(null), refusal);
            Matcher call = BESIDE.matcher(line);
            while (call.find()) Check.due(call.group(), answer(call.group(1), call.group(2)), refusal);
        }
        Check.due("refusals that README.md tells", told, 6);
    }

    private static int answer(String name, String numbers) throws ReflectiveOperationException {
        String[] words = numbers.isBlank() ? new String[0] : numbers.split(", *");
        Object[] args = new Object[words.length];
        for (int i = 0; i < words.length; i++) args[i] = Integer.valueOf(words[i]);
        return (Integer) FACE.get(name).invoke(FLOOR, args);
    }

    /** The chart of the first orders, by an object of its own: each may be asked 512 times. */
    private static String chart() {
        ShopFloor other = Check.made(shop);
        StringBuilder chart = new StringBuilder();
        int bytes = other.chart(-1);
        for (int i = 0; i < bytes; i++) chart.append((char) other.chart(i));
        return chart.toString();
    }
}

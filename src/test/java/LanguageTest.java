import java.io.IOException;
import java.lang.reflect.Field;
import java.lang.reflect.Method;
import java.lang.reflect.Modifier;
import java.nio.file.Files;
import java.nio.file.Path;
import java.util.Set;
import java.util.TreeSet;
import java.util.regex.Matcher;
import java.util.regex.Pattern;

/** The face as the document has it, and those rules of LANGUAGE.md that can be seen in the text. */
public final class LanguageTest {
    private static final String[] FACE = {"feed(int)", "shop()", "task(int,int)", "order(int,int)", "turn(int,int)",
        "span()", "of(int,int)", "way(int)", "block(int)", "move(int)", "brings(int,int)", "does(int)", "tabu(int)",
        "step(int)", "kept(int)", "best(int)", "dispatch(int)", "would(int)", "machine(int,int)", "bound()",
        "all(int)", "chart(int)", "undo()", "redo()", "image()", "back()", "count(int)"};
    private static final String[] CONSTANTS = {"BAD", "NOT", "FULL", "RING", "STATE", "LONG"};
    private static final String[] FORBIDDEN = {"throw", "throws", "try", "catch", "finally", "synchronized", "assert",
        "import", "package", "native", "volatile", "transient", "protected", "var", "Object", "Thread", "Random",
        "System\\.(?!arraycopy)\\w+", "->", "::", "\\w+Exact", "hashCode", "toString", "equals"};

    public static void main(String[] args) throws IOException {
        face();
        nested();
        text(Files.readString(Path.of("src/main/java/ShopFloor.java")));
        Check.end();
    }

    private static void face() {
        Class<?> c = ShopFloor.class;
        Check.due("public", Modifier.isPublic(c.getModifiers()) ? 1 : 0, 1);
        Check.due("final", Modifier.isFinal(c.getModifiers()) ? 1 : 0, 1);
        Check.due("constructors", c.getDeclaredConstructors().length, 1);
        Check.due("public constructors", c.getConstructors().length, 1);
        Set<String> want = new TreeSet<>(Set.of(FACE));
        Set<String> names = new TreeSet<>();
        for (Method m : c.getDeclaredMethods()) {
            StringBuilder sign = new StringBuilder(m.getName()).append('(');
            for (Class<?> p : m.getParameterTypes()) sign.append(sign.charAt(sign.length() - 1) == '(' ? "" : ",").append(p);
            sign.append(')');
            if (Modifier.isPrivate(m.getModifiers())) {
                for (String f : FACE) Check.due("private " + m.getName(), f.startsWith(m.getName() + "(") ? 1 : 0, 0);
                continue;
            }
            names.add(sign.toString());
            Check.due(sign + " is public and answers an int", Modifier.isPublic(m.getModifiers())
                    && !Modifier.isStatic(m.getModifiers()) && m.getReturnType() == int.class ? 1 : 0, 1);
        }
        Check.due("the face " + names, names.equals(want) ? 1 : 0, 1);
        Set<String> constants = new TreeSet<>(Set.of(CONSTANTS));
        for (Field f : c.getDeclaredFields()) {
            boolean hidden = Modifier.isPrivate(f.getModifiers());
            Check.due("field " + f.getName(), hidden || constants.remove(f.getName()) ? 1 : 0, 1);
            Check.due("static " + f.getName() + " is final",
                    !Modifier.isStatic(f.getModifiers()) || Modifier.isFinal(f.getModifiers()) ? 1 : 0, 1);
        }
        Check.due("all constants", constants.size(), 0);
    }

    private static void nested() {
        Class<?>[] inside = ShopFloor.class.getDeclaredClasses();
        Check.due("at most twelve classes", inside.length + 1 <= 12 ? 1 : 0, 1);
        for (Class<?> c : inside) {
            Check.due(c.getName() + " is static", Modifier.isStatic(c.getModifiers()) ? 1 : 0, 1);
            int fields = 0;
            for (Field f : c.getDeclaredFields()) fields += Modifier.isStatic(f.getModifiers()) ? 0 : 1;
            Check.due(c.getName() + " has few fields", fields <= 20 ? 1 : 0, 1);
            for (Method m : c.getDeclaredMethods()) {
                Check.due(m.getName() + " takes at most seven", m.getParameterCount() <= 7 ? 1 : 0, 1);
                for (String f : FACE) {
                    Check.due("a method inside named " + m.getName(), f.startsWith(m.getName() + "(") ? 1 : 0, 0);
                }
            }
        }
    }

    private static void text(String source) {
        String code = source.replaceAll("(?s)/\\*.*?\\*/", "").replaceAll("//[^\n]*", "");
        for (String word : FORBIDDEN) {
            boolean isWord = Character.isLetter(word.charAt(0));
            Matcher m = Pattern.compile(isWord ? "\\b" + word + "\\b" : word).matcher(code);
            Check.due("\"" + word + "\" stands in the program", m.find() ? 1 : 0, 0);
        }
        for (int i = 0; i < source.length(); i++) {
            char sign = source.charAt(i);
            if (sign > 126 || sign < 32 && sign != '\n') Check.due("a sign at " + i, sign, ' ');
        }
        methodLengths(code);
    }

    private static void methodLengths(String code) {
        int length = 0;
        for (String line : code.split("\n")) {
            boolean head = line.matches(" {4}( {4})?[a-z].*\\) \\{");
            boolean end = line.matches(" {4}( {4})?\\}");
            length = head ? 1 : length + 1;
            if (end) Check.due("a method stays short", length <= 60 || line.startsWith("    }") && !line.startsWith("     ") ? 1 : 0, 1);
        }
    }
}

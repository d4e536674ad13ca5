import java.lang.reflect.InvocationTargetException;
import java.lang.reflect.Method;
import java.nio.file.Files;
import java.nio.file.Path;
import java.util.ArrayList;
import java.util.HashMap;
import java.util.List;
import java.util.Map;
import java.util.regex.Matcher;
import java.util.regex.Pattern;

/** README.md tells each call of the document's face, its refusals in their order, and answers that are so. */
public final class ReadmeTest extends Checks {
    private static final Pattern CALL =
        Pattern.compile("(?:int (\\w+) = )?loom\\.(\\w+)\\(([^()]*)\\);\\s*// (-?\\d+)\\b.*");
    private static final Pattern DECLARED = Pattern.compile("public int (\\w+)\\(([^)]*)\\);");
    private static final Pattern REFUSAL = Pattern.compile("(?<![\\w-])-[1-6]\\b");

    private final GameLoom loom = new GameLoom();
    private final Map<String, Integer> names = new HashMap<>();

    public static void main(String[] args) throws Exception {
        String readme = Files.readString(Path.of("README.md"));
        new ReadmeTest().runExample(readme);
        everyCallIsTold(readme, Files.readString(Path.of("../shared/DOC.md")));
        enteredAsTold(readme);
        due("the command that runs all tests is told", readme.contains("\n.ci/run\n") ? 1 : 0, 1);
        finish("ReadmeTest");
    }

    private void runExample(String readme) throws Exception {
        int calls = 0;
        for (String line : block(readme, "GameLoom loom = new GameLoom();").split("\n")) {
            Matcher m = CALL.matcher(line);
            if (m.matches()) {
                calls++;
                int got = call(m.group(2), m.group(3));
                due(line.strip(), got, Integer.parseInt(m.group(4)));
                if (m.group(1) != null) {
                    names.put(m.group(1), got);
                }
            }
        }
        due("calls of the example", calls, 13);
    }

    /** The code block that begins with these words. */
    private static String block(String readme, String words) {
        int from = readme.indexOf("```java\n" + words);
        due("a block with " + words, from < 0 ? 0 : 1, 1);
        return from < 0 ? "" : readme.substring(from + 8, readme.indexOf("\n```", from + 8));
    }

    private int call(String name, String told) throws IllegalAccessException, InvocationTargetException {
        String[] words = told.isEmpty() ? new String[0] : told.split(", ");
        for (Method method : GameLoom.class.getMethods()) {
            if (method.getName().equals(name)) {
                Object[] values = new Object[words.length];
                for (int i = 0; i < words.length; i++) {
                    values[i] = value(words[i], method.getParameterTypes()[i]);
                }
                return (Integer) method.invoke(loom, values);
            }
        }
        throw new IllegalStateException("no method " + name);
    }

    private Object value(String word, Class<?> type) {
        if (names.containsKey(word)) {
            return names.get(word);
        }
        if (type == long.class) {
            return Long.valueOf(word.substring(0, word.length() - 1));
        }
        return type == boolean.class ? (Object) Boolean.valueOf(word) : (Object) Integer.valueOf(word);
    }

    private static void everyCallIsTold(String readme, String document) {
        Matcher m = DECLARED.matcher(document);
        int told = 0;
        while (m.find()) {
            told++;
            String call = m.group(1) + "(" + m.group(2).replaceAll("(int|long|boolean) ", "") + ")";
            String row = lineWith(readme, "| `" + call + "` |");
            due(call + " is told", row.isEmpty() ? 0 : 1, 1);
            String[] columns = row.split("\\|");
            String promised = refusals(promise(document, m.group(1)));
            String refused = refusals(columns[columns.length - 1]);
            due(call + " has " + promised + ", told are " + refused, promised.equals(refused) ? 1 : 0, 1);
        }
        due("calls of the document's face", told, 29);
    }

    private static String lineWith(String text, String words) {
        for (String line : text.split("\n")) {
            if (line.startsWith(words)) {
                return line;
            }
        }
        return "";
    }

    /** Without what stands in brackets, which are no refusals; count tells of refusals and has none. */
    private static String promise(String document, String name) {
        if (name.equals("count")) {
            return "";
        }
        int from = document.indexOf(": " + name + "\n");
        String section = document.substring(from, document.indexOf("\n## ", from));
        return section.substring(section.indexOf("`: ")).replaceAll("\\([^)]*\\)", "");
    }

    private static String refusals(String text) {
        List<String> found = new ArrayList<>();
        Matcher m = REFUSAL.matcher(text);
        while (m.find()) {
            found.add(m.group());
        }
        return found.toString();
    }

    /** The page's own way to enter a text, and the text that it shows. */
    private static void enteredAsTold(String readme) throws Exception {
        String here = Files.readString(Path.of("src/test/java/ReadmeTest.java")).replaceAll("\\s+", " ");
        String told = block(readme, "static int enter(").replaceAll("\\s+", " ");
        due("enter is the page's", here.contains(told) ? 1 : 0, 1);
        String shown = "b34;iabxxxxxxxxba;so,hq!;gw,m40.";
        due(shown + " is on the page", readme.contains("`" + shown + "`") ? 1 : 0, 1);
        GameLoom x = new GameLoom();
        due("game of " + shown, enter(x, shown), 0);
        dueText(x, 0, shown);
    }

    /** Word by word as on the page, so that the page's own code is what is tried. */
    static int enter(GameLoom loom, String text) {
        for (int from = 0; from < text.length(); from += 8) {
            int n = Math.min(8, text.length() - from);
            long bytes = 0;
            for (int i = n - 1; i >= 0; i--) {
                bytes = bytes << 8 | text.charAt(from + i);
            }
            loom.feed(n, bytes);
        }
        return loom.game();
    }
}

import java.lang.reflect.Field;
import java.lang.reflect.Method;
import java.lang.reflect.Modifier;
import java.nio.file.Files;
import java.nio.file.Path;
import java.util.ArrayList;
import java.util.Arrays;
import java.util.HashSet;
import java.util.List;
import java.util.Set;
import java.util.TreeSet;
import java.util.regex.Matcher;
import java.util.regex.Pattern;

/** The document's face, and the rules of LANGUAGE.md that a plain look at the source can see. */
public final class LanguageTest {
    private static final String[] FACE = {
        "feed(int,long)", "game()", "of(int,int)", "letter(int,int)", "start(int)", "move(int)", "play(int)",
        "back()", "state(int)", "cell(int)", "look(int)", "best(int)", "ways(int)", "match(int,int,int,int)",
        "measure(int,int,int,int,int)", "verdicts(int,int)", "distance(int,int,int)", "whatFor(int,int,int)",
        "graft(int,int)", "drop(int,int,boolean)", "change(int,int,int)", "mirror(int)", "kin(int,int,int)",
        "puzzle(int,int,int)", "blunder(int,int,int)", "pie(int,int,int)", "keep(int,int)", "niche(int)",
        "count(int)",
    };
    private static final String[] FORBIDDEN = {
        "\\bthrow\\b", "\\btry\\b", "\\bcatch\\b", "\\bsynchronized\\b", "\\bassert\\b", "->", "::", "\\bimport\\b",
        "\\bpackage\\b", "\\bprotected\\b", "Exact\\b", "\\bsystem\\.(?!arraycopy)", "\\bThread\\b", "\\bRandom\\b",
        "\\bhashCode\\b", "\\btoString\\b", "\\bnew [A-Za-z]+\\([^)]*\\) \\{",
    };

    private static int wrong = 0;

    private static void check(boolean good, String fault) {
        if (!good) {
            wrong++;
            System.out.println(fault);
        }
    }

    public static void main(String[] args) throws Exception {
        face();
        nested();
        source();
        System.out.println("LanguageTest: " + (wrong == 0 ? "as due" : wrong + " faults"));
        if (wrong != 0) {
            System.exit(1);
        }
    }

    private static String signature(Method m) {
        StringBuilder s = new StringBuilder(m.getName()).append('(');
        for (Class<?> c : m.getParameterTypes()) {
            s.append(s.charAt(s.length() - 1) == '(' ? "" : ",").append(c.getName());
        }
        return s.append(')').toString();
    }

    private static void face() {
        Set<String> names = new HashSet<>();
        Set<String> found = new TreeSet<>();
        for (Method m : GameLoom.class.getDeclaredMethods()) {
            if (Modifier.isPublic(m.getModifiers())) {
                check(m.getReturnType() == int.class, m + " answers no int");
                found.add(signature(m));
                names.add(m.getName());
            }
        }
        check(found.equals(new TreeSet<>(Arrays.asList(FACE))), "the face is " + found);
        for (Method m : GameLoom.class.getDeclaredMethods()) {
            boolean open = Modifier.isPublic(m.getModifiers());
            check(open || Modifier.isPrivate(m.getModifiers()), m + " is neither public nor private");
            check(open || !names.contains(m.getName()), m + " bears a public name");
        }
        for (Field f : GameLoom.class.getDeclaredFields()) {
            check(Modifier.isPrivate(f.getModifiers()), f + " is not private");
        }
        check(Modifier.isFinal(GameLoom.class.getModifiers()), "the class is not final");
        check(GameLoom.class.getConstructors().length == 1, "not one public constructor");
    }

    private static void nested() {
        List<Class<?>> all = new ArrayList<>(Arrays.asList(GameLoom.class.getDeclaredClasses()));
        check(all.size() < 12, "too many classes");
        for (Class<?> c : all) {
            check(Modifier.isStatic(c.getModifiers()), c + " is not static");
            check(!Modifier.isPublic(c.getModifiers()), c + " is public");
        }
        all.add(GameLoom.class);
        for (Class<?> c : all) {
            int fields = 0;
            for (Field f : c.getDeclaredFields()) {
                boolean fixed = Modifier.isStatic(f.getModifiers());
                check(!fixed || Modifier.isFinal(f.getModifiers()), f + " is static and not final");
                fields += fixed ? 0 : 1;
            }
            check(fields <= 20, c + " has " + fields + " fields");
            for (Method m : c.getDeclaredMethods()) {
                check(m.getParameterCount() <= 7, m + " takes too much");
            }
        }
    }

    private static void source() throws Exception {
        String text = Files.readString(Path.of("src/main/java/GameLoom.java"));
        for (int i = 0; i < text.length(); i++) {
            check(text.charAt(i) < 128, "a sign above 127 at " + i);
        }
        String code = text.replaceAll("(?s)/\\*.*?\\*/", "").replaceAll("//[^\n]*", "");
        for (String word : FORBIDDEN) {
            Matcher m = Pattern.compile(word, Pattern.CASE_INSENSITIVE).matcher(code);
            check(!m.find(), "the source has " + word);
        }
        methods(code);
    }

    private static void recursion(String[] lines, int from, int to) {
        String name = lines[from].replaceAll("\\(.*", "").replaceAll(".* ", "");
        Pattern itself = Pattern.compile("(?<![.\\w])" + name + "\\(");
        for (int i = from + 1; i < to; i++) {
            check(!itself.matcher(lines[i]).find() || lines[from].contains("private "),
                "calls itself and is not private: " + lines[from]);
        }
    }

    /** By the indent of the brace that closes a method. */
    private static void methods(String code) {
        String[] lines = code.split("\n");
        int from = -1;
        for (int i = 0; i < lines.length; i++) {
            if (lines[i].matches("( {4}| {8})[a-z].*\\) \\{") && !lines[i].matches(" *(if|for|while|switch).*")) {
                from = i;
            }
            if (from >= 0 && lines[i].matches("( {4}| {8})\\}")
                && lines[i].indexOf('}') == lines[from].length() - lines[from].stripLeading().length()) {
                check(i - from < 60, "a method of " + (i - from + 1) + " lines: " + lines[from]);
                recursion(lines, from, i);
                from = -1;
            }
        }
    }
}

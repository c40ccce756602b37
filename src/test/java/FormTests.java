import java.io.IOException;
import java.lang.reflect.Constructor;
import java.lang.reflect.Field;
import java.lang.reflect.Method;
import java.lang.reflect.Modifier;
import java.nio.file.Files;
import java.nio.file.Path;
import java.util.ArrayList;
import java.util.Arrays;
import java.util.Collections;
import java.util.List;
import java.util.regex.Matcher;
import java.util.regex.Pattern;

/** The face that the document shows, and those rules of ../shared/LANGUAGE.md that a look at the text can tell. */
public final class FormTests {
    private static final String[] FACE = {
        "int scene(int, int, int, int)", "int prop(int, int, int, int)", "int ofScene(int, int)", "int become(int, int)",
        "int as(int, int)", "int set(int, int, int)", "int comes()", "int given(int)", "int place(int, int)",
        "int back(int)", "int guess(int)", "int understood(int)", "int flaw()", "int turn()", "int feed(long, int)",
        "int text(int)", "int law(int, int, int, int)", "int least(int)", "int fewest(int)", "int orders(int)",
        "int mended(int, int, int)", "int thought(int)", "int sure()", "int explained(int, int)", "int evenings(int)",
        "int loose(int)", "int seed(int)", "int voice(int, int, int)", "int trace(int)", "int sheet(int, int, int)",
        "int put(int, int, int)", "int move(int, int, int, int, int)", "int order(int)", "int judge(int)",
        "int image()", "int restore()", "int tell(int)", "int check()", "int count(int)", "int told(int)",
    };
    private static final String[] NOT_THERE = {
        "\\bimport\\b", "\\bpackage\\b", "\\bthrows?\\b", "\\btry\\b", "\\bcatch\\b", "\\bfinally\\b", "\\bsynchronized\\b",
        "\\bassert\\b", "->", "::", "\\bnew Object\\b", "\\bstatic\\s*\\{", "\\bprotected\\b", "\\bvolatile\\b", "\\bnative\\b",
        "\\bSystem\\.(?!arraycopy\\b)", "\\w+Exact\\b", "\\bequals\\s*\\(\\s*Object", "\\bhashCode\\b", "\\btoString\\b",
        "\\bThread\\b", "\\bObject\\b", "\\bwhile\\s*\\(\\s*true", "for\\s*\\(\\s*;\\s*;", "\\bfloat\\b", "\\bdouble\\b",
        "\\b(Integer|Math|Long)\\.(?!bitCount|max|min|abs|floorMod|floorDiv|compare)", "\\[\\]\\s*\\[\\]", "\\]\\s*\\[",
    };
    private static final int LONGEST_METHOD = 60;
    private static final int MOST_PARAMETERS = 7;
    private static final int MOST_CLASSES = 12;
    private static final int MOST_FIELDS = 20;

    private static int passed = 0;
    private static int failed = 0;

    private static void holds(String what, boolean is) {
        if (is) {
            passed++;
        } else {
            failed++;
            System.out.println("form: " + what);
        }
    }

    public static void main(String[] args) throws IOException {
        face();
        classes();
        String text = bare(Files.readString(Path.of("src/main/java/PlayedBack.java")));
        words(text);
        methods(text);
        System.out.println(passed + " passed, " + failed + " failed");
        if (failed != 0) {
            System.exit(1);
        }
    }

    private static String shown(Method m) {
        List<String> parameters = new ArrayList<>();
        for (Class<?> c : m.getParameterTypes()) {
            parameters.add(c.getSimpleName());
        }
        return m.getReturnType().getSimpleName() + " " + m.getName() + "(" + String.join(", ", parameters) + ")";
    }

    private static void face() {
        List<String> open = new ArrayList<>();
        for (Method m : PlayedBack.class.getDeclaredMethods()) {
            if (!Modifier.isPrivate(m.getModifiers()) && !m.isSynthetic()) {
                holds(shown(m) + " is public and no static one", m.getModifiers() == Modifier.PUBLIC);
                open.add(shown(m));
            }
        }
        List<String> due = new ArrayList<>(Arrays.asList(FACE));
        Collections.sort(due);
        Collections.sort(open);
        holds("the face is " + open, open.equals(due));
        Constructor<?>[] made = PlayedBack.class.getDeclaredConstructors();
        holds("one constructor", made.length == 1 && Modifier.isPublic(made[0].getModifiers()) && made[0].getParameterCount() == 0);
        holds("public and final", PlayedBack.class.getModifiers() == (Modifier.PUBLIC | Modifier.FINAL));
        for (Field f : PlayedBack.class.getDeclaredFields()) {
            holds(f.getName() + " is private", Modifier.isPrivate(f.getModifiers()) || f.isSynthetic());
        }
    }

    private static void classes() {
        Class<?>[] inside = PlayedBack.class.getDeclaredClasses();
        holds("some twelve classes", inside.length + 1 <= MOST_CLASSES);
        List<Class<?>> all = new ArrayList<>(Arrays.asList(inside));
        all.add(PlayedBack.class);
        List<String> names = new ArrayList<>();
        for (String line : FACE) {
            names.add(line.substring(line.indexOf(' ') + 1, line.indexOf('(')));
        }
        for (Class<?> c : all) {
            int fields = 0;
            for (Field f : c.getDeclaredFields()) {
                boolean constant = Modifier.isStatic(f.getModifiers());
                holds(f + " is final", !constant || Modifier.isFinal(f.getModifiers()));
                fields += constant ? 0 : 1;
            }
            holds(c + " has some twenty fields", fields <= MOST_FIELDS);
            holds(c + " is static", c == PlayedBack.class || Modifier.isStatic(c.getModifiers()) && !Modifier.isPublic(c.getModifiers()));
            for (Method m : c.getDeclaredMethods()) {
                boolean own = c != PlayedBack.class || Modifier.isPrivate(m.getModifiers());
                holds(m + " has a name of its own", !own || !names.contains(m.getName()));
                holds(m + " has few parameters", m.getParameterCount() <= MOST_PARAMETERS);
            }
        }
    }

    /** Without comments, and with nothing in texts and signs. */
    private static String bare(String text) {
        return text.replaceAll("(?s)/\\*.*?\\*/", "").replaceAll("//[^\n]*", "")
                .replaceAll("\"[^\"\n]*\"", "\"\"").replaceAll("'(\\\\.|[^'\n])'", "' '");
    }

    private static void words(String text) {
        for (String word : NOT_THERE) {
            Matcher m = Pattern.compile(word).matcher(text);
            holds("no " + word, !m.find());
        }
        holds("texts aren't joined by +", !Pattern.compile("\"\\s*\\+|\\+\\s*\"").matcher(text).find());
    }

    private static void methods(String text) {
        String[] lines = text.split("\n", -1);
        Pattern head = Pattern.compile("^( {4}| {8})(?!return|else|new)[\\w\\[\\]<>]+( [\\w\\[\\]<>]+)*\\(.*\\{$");
        for (int i = 0; i < lines.length; i++) {
            Matcher m = head.matcher(lines[i]);
            if (m.matches() && !lines[i].matches("^\\s+(if|for|while|switch|do)\\b.*")) {
                int end = i;
                while (end < lines.length && !lines[end].equals(m.group(1) + "}")) {
                    end++;
                }
                holds(lines[i].trim() + " is short", end - i < LONGEST_METHOD);
                holds(lines[i].trim() + " makes nothing", makesAtFirst(lines[i]) || !makes(lines, i, end));
            }
        }
    }

    /** The room never gets anything back: rows are made when an object is, and used again. */
    private static boolean makesAtFirst(String head) {
        return head.matches("\\s+(public )?[A-Z]\\w*\\(.*") || head.contains("static Row full(");
    }

    private static boolean makes(String[] lines, int from, int to) {
        boolean made = false;
        for (int i = from; i <= to && i < lines.length; i++) {
            made |= lines[i].matches(".*\\b(new|clone|copyOf|copyOfRange|substring|toCharArray)\\b.*");
        }
        return made;
    }
}

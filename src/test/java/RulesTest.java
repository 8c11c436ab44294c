import java.lang.reflect.Constructor;
import java.lang.reflect.Field;
import java.lang.reflect.Method;
import java.lang.reflect.Modifier;
import java.nio.file.Files;
import java.nio.file.Path;
import java.util.Arrays;
import java.util.Set;
import java.util.TreeSet;
import java.util.regex.Matcher;
import java.util.regex.Pattern;

/** The document's face, and those rules of LANGUAGE.md that a test can see. */
public final class RulesTest {
    private static final String[] FACE = {
        "int counters(int)", "int masks(int,int)", "int rates(int,int,int)", "int forks(int)",
        "int exits(int)", "int group(int,int,int,int,int)", "int event(int,int)",
        "int periods(int,int)", "int skids(int)", "int lives(int,int)", "int runs(int,int)",
        "int task(int,int)", "int of(int,int)", "int about(int,int,int)", "int count(int,int,int)",
        "int times(int,int,int)", "int scaled(int,int,int)", "int fit(int)", "int queue(int)",
        "int sample(int,int)", "int told(int)", "int type(int)", "int clear()", "int does()",
        "int back()", "int refused(int)", "long digest()"};

    private static final String[] BANNED = {
        "throw", "throws", "try", "catch", "finally", "synchronized", "assert", "import", "package",
        "Object", "Exception", "Error", "System\\.(?!arraycopy)\\w+", "\\w+Exact", "hashCode",
        "toString", "->", "::", "\\bvar\\b", "volatile", "transient", "native", "while", "do"};

    public static void main(String[] args) throws Exception {
        face();
        members(CounterDeals.class);
        source(Files.readString(Path.of("src/main/java/CounterDeals.java")));
        Due.end();
    }

    private static void face() throws Exception {
        Class<?> c = CounterDeals.class;
        Due.holds("public final", Modifier.isPublic(c.getModifiers()) && Modifier.isFinal(c.getModifiers()));
        Set<String> seen = new TreeSet<>();
        for (Method m : c.getDeclaredMethods()) {
            if (!Modifier.isPrivate(m.getModifiers())) {
                String params = String.join(",", Arrays.stream(m.getParameterTypes()).map(Class::getName).toList());
                seen.add(m.getReturnType() + " " + m.getName() + "(" + params + ")");
            }
        }
        Due.holds("methods " + seen, seen.equals(new TreeSet<>(Arrays.asList(FACE))));
        Due.is("constructors", c.getDeclaredConstructors().length, 1);
        Constructor<?> made = c.getDeclaredConstructors()[0];
        Due.holds("public constructor without parameters",
            Modifier.isPublic(made.getModifiers()) && made.getParameterCount() == 0);
        Set<String> constants = new TreeSet<>();
        for (Field f : c.getDeclaredFields()) {
            if (!Modifier.isPrivate(f.getModifiers())) {
                constants.add(f.getName() + f.getInt(null));
            }
        }
        Due.holds("constants " + constants,
            constants.equals(new TreeSet<>(Arrays.asList("NONE-1", "BAD-2", "NO-3", "FULL-4"))));
    }

    private static void members(Class<?> outer) {
        Set<String> open = new TreeSet<>();
        for (String line : FACE) {
            open.add(line.substring(line.indexOf(' ') + 1, line.indexOf('(')));
        }
        int classes = 1;
        fields(outer);
        for (Method m : outer.getDeclaredMethods()) {
            Due.holds("private " + m, !Modifier.isPrivate(m.getModifiers()) || !open.contains(m.getName()));
        }
        for (Class<?> inner : outer.getDeclaredClasses()) {
            classes++;
            Due.holds("static " + inner, Modifier.isStatic(inner.getModifiers()));
            Due.is("classes inside " + inner, inner.getDeclaredClasses().length, 0);
            fields(inner);
            for (Method m : inner.getDeclaredMethods()) {
                Due.holds("seven parameters at most: " + m, m.getParameterCount() <= 7);
                Due.holds("name of a public one: " + m, !open.contains(m.getName()));
            }
        }
        Due.holds("some twelve classes: " + classes, classes <= 12);
    }

    private static void fields(Class<?> c) {
        int own = 0;
        for (Field f : c.getDeclaredFields()) {
            boolean isStatic = Modifier.isStatic(f.getModifiers());
            own += isStatic ? 0 : 1;
            Due.holds("static is final: " + f, !isStatic || Modifier.isFinal(f.getModifiers()));
        }
        Due.holds("some twenty fields: " + c + " " + own, own <= 20);
    }

    private static void source(String whole) {
        String code = whole.replaceAll("(?s)/\\*.*?\\*/", "").replaceAll("//[^\n]*", "")
            .replaceAll("'[^']*'", "0");
        for (String word : BANNED) {
            String bounds = Character.isLetter(word.charAt(0)) ? "\\b" + word + "\\b" : word;
            Matcher m = Pattern.compile(bounds).matcher(code);
            Due.holds("no " + word, !m.find());
        }
        int longest = 0;
        int start = 0;
        String[] lines = whole.split("\n");
        for (int i = 0; i < lines.length; i++) {
            Due.holds("line " + (i + 1) + " is at most 110 long", lines[i].length() <= 110);
            if (lines[i].matches(" {4,8}\\S.*\\) \\{")) {
                start = i;
            }
            if (lines[i].matches(" {4,8}}")) {
                longest = lines[start].indexOf(lines[start].trim()) == lines[i].indexOf('}')
                    ? Math.max(longest, i - start + 1) : longest;
            }
        }
        Due.holds("methods of some sixty lines, the longest has " + longest, longest > 10 && longest <= 60);
    }
}

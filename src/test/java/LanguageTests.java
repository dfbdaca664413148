import java.io.IOException;
import java.lang.management.ManagementFactory;
import java.lang.reflect.Constructor;
import java.lang.reflect.Field;
import java.lang.reflect.Method;
import java.lang.reflect.Modifier;
import java.nio.file.Files;
import java.nio.file.Path;
import java.util.ArrayList;
import java.util.HashSet;
import java.util.List;
import java.util.Set;
import java.util.regex.Matcher;
import java.util.regex.Pattern;

/** What LANGUAGE.md asks of the source, as far as a program can see it, and how little a run makes. */
public final class LanguageTests {
    private static final String FACE = """
        int feed(int,int,int,int,int)
        int end(int)
        int forms()
        int lay()
        int goal()
        int wanted()
        int fault(int)
        int way(int,int)
        int cell(int)
        boolean stick(int,int,boolean)
        int says(int)
        int isTrue()
        int worth(int)
        int mends(int,int)
        int mend(int,int,int,int)
        int least()
        int shape(int)
        int shaped(int,int,int)
        int bound(boolean)
        int apart(int)
        int steps()
        int step(int,int)
        int puzzle(int,int)
        int turned(int,int)
        int turnedTrue(int)
        int seen(int,int,boolean)
        boolean untell(int)
        int later(int)
        int could(int)
        int couldBe(int,int,int)
        int next(int,int)
        int extreme(int,int,boolean)
        int numbers(int,int)
        int grundy(int)
        int wins(int)
        boolean undo()
        boolean redo()
        int keep(int)
        int back(int)
        int about(int)
        """;

    private static int wrong = 0;

    public static void main(String[] args) throws IOException {
        String source = Files.readString(Path.of("src/main/java/StickSums.java"));
        face();
        nested();
        words(source);
        methods(source);
        room();
        System.out.println(wrong == 0 ? "the language is kept" : wrong + " faults");
        if (wrong != 0) {
            System.exit(1);
        }
    }

    private static void check(boolean holds, String what) {
        if (!holds) {
            wrong++;
            System.out.println(what);
        }
    }

    private static void face() {
        List<String> due = new ArrayList<>(List.of(FACE.strip().split("\n")));
        for (Method m : StickSums.class.getDeclaredMethods()) {
            if (!Modifier.isPrivate(m.getModifiers()) && !m.isSynthetic()) {
                StringBuilder b = new StringBuilder(m.getReturnType() + " " + m.getName() + "(");
                for (Class<?> p : m.getParameterTypes()) {
                    b.append(b.charAt(b.length() - 1) == '(' ? "" : ",").append(p);
                }
                check(Modifier.isPublic(m.getModifiers()) && due.remove(b + ")"), "not of the face: " + b + ")");
            }
        }
        check(due.isEmpty(), "missing: " + due);
        for (Field f : StickSums.class.getDeclaredFields()) {
            check(Modifier.isPrivate(f.getModifiers()) || f.getName().equals("NONE"), "field seen: " + f);
        }
        Constructor<?>[] makers = StickSums.class.getConstructors();
        check(makers.length == 1 && makers[0].getParameterCount() == 0, "constructor");
        check(Modifier.isFinal(StickSums.class.getModifiers()), "not final");
    }

    private static void nested() {
        Set<String> names = new HashSet<>();
        for (Method m : StickSums.class.getMethods()) {
            names.add(m.getName());
        }
        Class<?>[] all = StickSums.class.getDeclaredClasses();
        check(all.length <= 11, "more than twelve classes");
        List<Class<?>> every = new ArrayList<>(List.of(all));
        every.add(StickSums.class);
        for (Class<?> c : every) {
            boolean inside = c != StickSums.class;
            check(!inside || Modifier.isStatic(c.getModifiers()), c + " is not static");
            int fields = 0;
            for (Field f : c.getDeclaredFields()) {
                boolean still = Modifier.isStatic(f.getModifiers());
                check(!still || Modifier.isFinal(f.getModifiers()), f + " is not final");
                fields += still ? 0 : 1;
            }
            check(fields <= 20, c + " has " + fields + " fields");
            for (Method m : c.getDeclaredMethods()) {
                check(m.getParameterCount() <= 7, m + " has too many parameters");
                check(!inside && !Modifier.isPrivate(m.getModifiers()) || !names.contains(m.getName()),
                    m + " bears a public name");
            }
        }
    }

    private static void words(String source) {
        String bare = source.replaceAll("(?s)/\\*.*?\\*/", "").replaceAll("//[^\n]*", "");
        String[] never = {"throw", "throws", "try", "catch", "synchronized", "assert", "->", "::", "import", "package",
            "Exact", "hashCode", "toString", "System.out", "Random", "Thread", "goto", "native", "volatile"};
        for (String w : never) {
            String word = Character.isLetter(w.charAt(0)) ? "\\b" + Pattern.quote(w) + "\\b" : Pattern.quote(w);
            check(!Pattern.compile(word).matcher(bare).find(), "'" + w + "' in the source");
        }
        for (int i = 0; i < source.length(); i++) {
            check(source.charAt(i) < 128, "a sign above 127 in the source");
        }
        String emptied = bare.replaceAll("\"[^\"]*\"", "TEXT");
        check(!Pattern.compile("TEXT\\s*\\+|\\+\\s*TEXT").matcher(emptied).find(), "texts joined by +");
    }

    private static void methods(String source) {
        Matcher m = Pattern.compile("(?m)^( {4}| {8})(?:\\w+ )*\\w+(?:\\[\\])* ?\\w*\\([^;{]*\\) \\{\n(?:.*\n)*?\\1\\}").matcher(source);
        int seen = 0;
        while (m.find()) {
            seen++;
            check(m.group().split("\n").length <= 60, "too long: " + m.group().strip().split("\n")[0]);
        }
        check(seen > 100, "only " + seen + " methods were found");
    }

    /** All calls of a run live in one room, so a call should make nothing. */
    private static void room() {
        com.sun.management.ThreadMXBean bean = (com.sun.management.ThreadMXBean) ManagementFactory.getThreadMXBean();
        long least = Long.MAX_VALUE;
        for (int tries = 0; tries < 3; tries++) {
            StickSums x = new StickSums();
            long before = bean.getCurrentThreadAllocatedBytes();
            useAll(x);
            least = Math.min(least, bean.getCurrentThreadAllocatedBytes() - before);
        }
        check(least < 2000, "calls make " + least + " bytes");
    }

    private static void useAll(StickSums x) {
        x.feed(1684629353, 1948268320, 1634934835, 960193641, 1734964256);
        x.feed(908091763, 540095029, 544174624, 825373755, 0);
        x.end(36);
        x.forms();
        x.feed(908801085, 872415232, 0, 0, 0);
        x.end(5);
        x.lay();
        x.feed(942486589, 872415232, 0, 0, 0);
        x.end(5);
        x.goal();
        x.feed(1818584692, 1010302976, 0, 0, 0);
        x.end(6);
        x.wanted();
        x.mends(3, 3);
        x.mend(1, 1, 1, 0);
        x.least();
        x.stick(0, 6, false);
        x.stick(0, 1, true);
        x.undo();
        x.redo();
        x.shape(18);
        x.shaped(18, 0, 0);
        x.bound(true);
        x.apart(0);
        x.steps();
        x.step(1, 0);
        x.puzzle(2, 0);
        x.turned(0, 0);
        x.turnedTrue(1);
        x.seen(0, 0, true);
        x.untell(0);
        x.could(0);
        x.next(0, 0);
        x.extreme(20, 5, true);
        x.numbers(25, 5);
        x.wins(0);
        x.keep(0);
        x.back(0);
    }
}

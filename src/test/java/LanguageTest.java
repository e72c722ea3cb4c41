import java.lang.management.ManagementFactory;
import java.lang.reflect.Field;
import java.lang.reflect.Method;
import java.lang.reflect.Modifier;
import java.nio.file.Files;
import java.nio.file.Path;
import java.util.HashSet;
import java.util.Set;
import java.util.regex.Matcher;
import java.util.regex.Pattern;

/** The rules of LANGUAGE.md that a machine can look at, and what the calls of a run make. */
public final class LanguageTest {
    private static final String FACE = "town rule build pull ofLot become as paint alike may wrong feed text law wish steps"
        + " right rows rings before drawn storm harm worst fill worth pays years seed voice trace sheet put move builds"
        + " judge image restore tell check count told";

    public static void main(String[] args) throws Exception {
        hasTheFaceAlone();
        keepsNothingStatic();
        usesNothingElse();
        isShort();
        makesNothingInCalls();
        Due.end("LanguageTest");
    }

    private static void hasTheFaceAlone() {
        Set<String> face = new HashSet<>(Set.of(FACE.split(" ")));
        for (Method m : AlikeTown.class.getDeclaredMethods()) {
            boolean isPublic = Modifier.isPublic(m.getModifiers());
            Due.holds(m + " is private or of the face", isPublic || Modifier.isPrivate(m.getModifiers()) || m.isSynthetic());
            Due.holds(m + " has a name of its own", isPublic == face.contains(m.getName()));
        }
        Due.is("methods", face.stream().filter(n -> hasPublic(n)).count(), 42);
        Due.is("constructors", AlikeTown.class.getConstructors().length, 1);
        for (Field f : AlikeTown.class.getDeclaredFields()) {
            Due.holds(f + " is private", Modifier.isPrivate(f.getModifiers()));
        }
        for (Class<?> c : AlikeTown.class.getDeclaredClasses()) {
            Due.holds(c + " is static", Modifier.isStatic(c.getModifiers()) && !Modifier.isPublic(c.getModifiers()));
            for (Method m : c.getDeclaredMethods()) {
                Due.holds(m + " has a name of its own", !face.contains(m.getName()));
            }
        }
        Due.holds("some twelve classes", AlikeTown.class.getDeclaredClasses().length < 12);
    }

    private static boolean hasPublic(String name) {
        for (Method m : AlikeTown.class.getMethods()) {
            if (m.getName().equals(name)) {
                return true;
            }
        }
        return false;
    }

    private static void keepsNothingStatic() {
        fieldsOf(AlikeTown.class);
        for (Class<?> c : AlikeTown.class.getDeclaredClasses()) {
            fieldsOf(c);
        }
    }

    private static void fieldsOf(Class<?> c) {
        int own = 0;
        for (Field f : c.getDeclaredFields()) {
            boolean isStatic = Modifier.isStatic(f.getModifiers());
            Due.holds(f + " is final", !isStatic || Modifier.isFinal(f.getModifiers()));
            own += isStatic ? 0 : 1;
        }
        Due.holds(c + " has some twenty fields", own <= 20);
    }

    private static String code() throws Exception {
        String code = Files.readString(Path.of("src/main/java/AlikeTown.java"));
        return code.replaceAll("(?s)/\\*.*?\\*/", "").replaceAll("//[^\n]*", "");
    }

    private static void usesNothingElse() throws Exception {
        String code = code();
        for (String word : "throw throws try catch finally synchronized assert import package protected record enum".split(" ")) {
            Due.holds("no " + word, !Pattern.compile("\\b" + word + "\\b").matcher(code).find());
        }
        for (String sign : new String[] {"->", "::", "\"", "@", "Exact", "equals", "hashCode", "toString", "instanceof"}) {
            Due.holds("no " + sign, !code.contains(sign));
        }
        Matcher calls = Pattern.compile("\\b(Math|Integer|Long|System|Arrays)\\.(\\w+)").matcher(code);
        while (calls.find()) {
            Due.holds(calls.group() + " is in the library", "max min bitCount arraycopy MAX_VALUE MIN_VALUE".contains(calls.group(2)));
        }
    }

    private static void isShort() throws Exception {
        int start = -1;
        int at = 0;
        for (String line : code().split("\n")) {
            at++;
            if (line.matches("( {4}| {8})\\w[\\w\\[\\]<> ]* \\w+\\([^;]*\\) \\{")) {
                start = at;
                Due.holds(line + " has seven parameters at most", line.split(",").length <= 7);
            } else if (line.matches("( {4}| {8})\\}") && start > 0) {
                Due.holds("line " + at + " ends a method of sixty lines at most", at - start <= 60);
                start = -1;
            }
        }
    }

    /** The acts of a run that are dear, as often as a run can ask them: they work in rows that stand. */
    private static void makesNothingInCalls() {
        com.sun.management.ThreadMXBean bean = (com.sun.management.ThreadMXBean) ManagementFactory.getThreadMXBean();
        ask(new AlikeTown());
        AlikeTown x = new AlikeTown();
        long id = Thread.currentThread().getId();
        bean.getThreadAllocatedBytes(id);
        long had = bean.getThreadAllocatedBytes(id);
        ask(x);
        long made = bean.getThreadAllocatedBytes(id) - had;
        Due.holds("made " + made + " bytes in a run", made < 10000);
    }

    private static void ask(AlikeTown x) {
        for (int i = 0; i < 16; i++) {
            x.town(1, 8, 1);
            x.before();
            x.rings(9);
            x.rows(9);
            x.town(8, 8, 2);
            x.sheet(0, 8, 64);
            x.drawn(0);
            x.builds(0);
            x.feed('v', 1);
            x.text(i & 1);
            x.fill();
            x.wish(i, 1, 2, 1);
            x.steps(i, 1, 2);
            x.years(200);
            x.pays(1);
            x.worst();
            x.storm(0, i % 3);
            x.right();
            x.may(5, -1);
            x.tell(i);
            x.check();
            x.voice(3, 3, i);
            x.image();
            x.restore();
            x.judge(0);
        }
    }
}

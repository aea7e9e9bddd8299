import com.sun.management.ThreadMXBean;
import java.io.IOException;
import java.lang.management.ManagementFactory;
import java.lang.reflect.Constructor;
import java.lang.reflect.Field;
import java.lang.reflect.Method;
import java.lang.reflect.Modifier;
import java.nio.charset.StandardCharsets;
import java.nio.file.Files;
import java.nio.file.Path;
import java.util.HashSet;
import java.util.Set;
import java.util.TreeSet;
import java.util.regex.Pattern;

/** The document's face, those rules of LANGUAGE.md that can be seen from outside, and the room of a run. */
public final class FaceTest {
    private static final Due due = new Due("FaceTest");

    private static final String[] FACE = {
        "int letter(int)", "int blank()", "int fault()", "int law()", "int holder(int,int)", "int about(int,int)",
        "int as(int,int)", "int heir(int,int)", "int beast(int,int)", "int beastOf(int,int)", "int give(int,int)",
        "int die(int)", "int year()", "int safe(int,int)", "int giving(int,int)", "int mean(int,int,int)",
        "int roll(int,int)", "int whose(int,int)", "int manors(int,int,int)", "int image()", "int restore()",
        "int count(int)", "long digest()",
    };

    public static void main(String[] args) throws IOException {
        face();
        constants();
        insides();
        source();
        room();
        noCallMakesObjects();
        due.end();
    }

    private static void face() {
        due.holds("the class is public and final",
            BestBeast.class.getModifiers() == (Modifier.PUBLIC | Modifier.FINAL));
        Set<String> seen = new TreeSet<>();
        Set<String> publicNames = new HashSet<>();
        for (Method m : BestBeast.class.getDeclaredMethods()) {
            if (m.getModifiers() == Modifier.PUBLIC) {
                seen.add(m.toString().replace("public ", "").replace("BestBeast.", ""));
                publicNames.add(m.getName());
            }
        }
        due.holds("the public methods are those of the document: " + seen, seen.equals(Set.of(FACE)));
        for (Method m : BestBeast.class.getDeclaredMethods()) {
            if (m.getModifiers() != Modifier.PUBLIC) {
                due.holds(m + " is private", Modifier.isPrivate(m.getModifiers()));
                due.holds(m + " bears no public name", !publicNames.contains(m.getName()));
            }
        }
        Constructor<?>[] made = BestBeast.class.getDeclaredConstructors();
        due.is("how many constructors", made.length, 1);
        due.holds("the constructor is public", made[0].getModifiers() == Modifier.PUBLIC);
        due.is("its parameters", made[0].getParameterCount(), 0);
    }

    private static void constants() {
        Set<String> open = new TreeSet<>();
        for (Field f : BestBeast.class.getDeclaredFields()) {
            int m = f.getModifiers();
            if (Modifier.isPublic(m)) {
                open.add(f.getName());
                due.holds(f + " is a constant", Modifier.isStatic(m) && Modifier.isFinal(m));
            } else {
                due.holds(f + " is private", Modifier.isPrivate(m));
            }
            due.holds(f + ", if static, is final", !Modifier.isStatic(m) || Modifier.isFinal(m));
        }
        due.holds("the constants are those of the document: " + open,
            open.equals(Set.of("NONE", "UNKNOWN", "OUTSIDE", "STATE", "FULL")));
        due.is("NONE", BestBeast.NONE, -1);
        due.is("UNKNOWN", BestBeast.UNKNOWN, -101);
        due.is("OUTSIDE", BestBeast.OUTSIDE, -102);
        due.is("STATE", BestBeast.STATE, -103);
        due.is("FULL", BestBeast.FULL, -104);
    }

    private static void insides() {
        Class<?>[] inside = BestBeast.class.getDeclaredClasses();
        due.holds("at most twelve classes inside", inside.length <= 12);
        for (Class<?> c : inside) {
            int m = c.getModifiers();
            due.holds(c + " is static", Modifier.isStatic(m));
            due.holds(c + " is neither public nor protected", !Modifier.isPublic(m) && !Modifier.isProtected(m));
            int fields = 0;
            for (Field f : c.getDeclaredFields()) {
                fields += Modifier.isStatic(f.getModifiers()) ? 0 : 1;
            }
            due.holds(c + " has at most twenty fields", fields <= 20);
        }
    }

    private static void source() throws IOException {
        String all = Files.readString(Path.of("src/main/java/BestBeast.java"), StandardCharsets.ISO_8859_1);
        String code = all.replaceAll("(?s)/\\*.*?\\*/", "").replaceAll("//[^\n]*", "");
        due.holds("no sign above 127", code.chars().allMatch(c -> c < 128));
        String[] words = {
            "throw", "throws", "try", "catch", "finally", "synchronized", "assert", "package", "native", "Object",
            "Class", "Random", "Thread", "protected", "hashCode",
        };
        for (String word : words) {
            due.holds("no '" + word + "'", !Pattern.compile("\\b" + word + "\\b").matcher(code).find());
        }
        due.holds("of System arraycopy alone", !Pattern.compile("\\bSystem\\.(?!arraycopy\\b)").matcher(code).find());
        due.holds("no method reference", !code.contains("::"));
        for (String line : code.split("\n")) {
            boolean imports = line.startsWith("import ");
            due.holds("may be imported: " + line,
                !imports || line.matches("import java\\.util\\.(ArrayList|List|Arrays|Iterator|\\*);.*"));
            due.holds("no lambda: " + line, !line.contains("->") || line.trim().matches("(case|default)\\b.*"));
        }
    }

    /** All calls of one run live in one room: 600,000 objects, 7.3 million fields and elements in all. */
    private static void room() {
        ThreadMXBean threads = (ThreadMXBean) ManagementFactory.getThreadMXBean();
        long most = 600_000L * 16 + 7_300_000L * 8;
        for (Scene scene : Scene.ALL) {
            long before = threads.getThreadAllocatedBytes(Thread.currentThread().getId());
            BestBeast x = scene.made();
            for (int i = 0; i < 50; i++) {
                x.digest();
                x.mean(0, 4, 0);
                x.whose(0, 0);
                x.manors(60, i, 0);
                x.image();
                x.restore();
                x.safe(0, 1);
                x.fault();
            }
            long made = threads.getThreadAllocatedBytes(Thread.currentThread().getId()) - before;
            due.holds("a run (" + scene.name + ") makes " + made + " bytes", made < most);
        }
    }

    /** The least of three calls, each on a new object: what the machine makes for itself it makes once. */
    private static void noCallMakesObjects() {
        ThreadMXBean threads = (ThreadMXBean) ManagementFactory.getThreadMXBean();
        long self = Thread.currentThread().getId();
        for (Scene scene : Scene.ALL) {
            for (String name : Calls.NAMES) {
                long least = Long.MAX_VALUE;
                for (int often = 0; often < 3; often++) {
                    BestBeast x = scene.made();
                    int[] a = fit(name);
                    long before = threads.getThreadAllocatedBytes(self);
                    Calls.made(x, name, a);
                    least = Math.min(least, threads.getThreadAllocatedBytes(self) - before);
                }
                due.is("bytes that " + Calls.told(name, fit(name)) + " makes (" + scene.name + ")", least, 0);
            }
        }
    }

    private static int[] fit(String name) {
        switch (name) {
            case "letter": return new int[] {49};
            case "mean": return new int[] {0, 4, 0};
            case "giving": return new int[] {0, 4};
            case "manors": return new int[] {60, 5, 0};
            case "beast": case "give": case "heir": return new int[] {0, 3};
            default: return new int[Calls.parameters(name)];
        }
    }
}

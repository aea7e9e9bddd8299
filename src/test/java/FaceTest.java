import java.io.IOException;
import java.lang.reflect.Constructor;
import java.lang.reflect.Field;
import java.lang.reflect.Method;
import java.lang.reflect.Modifier;
import java.nio.charset.StandardCharsets;
import java.nio.file.Files;
import java.nio.file.Path;
import java.util.HashSet;
import java.util.Set;
import java.util.TreeSet;
import java.util.regex.Pattern;

/** The document's face, and those rules of LANGUAGE.md that can be seen from outside. */
public final class FaceTest {
    private static final Due due = new Due("FaceTest");

    private static final String[] FACE = {
        "int letter(int)", "int blank()", "int fault()", "int law()", "int holder(int,int)", "int about(int,int)",
        "int as(int,int)", "int heir(int,int)", "int beast(int,int)", "int beastOf(int,int)", "int give(int,int)",
        "int die(int)", "int year()", "int safe(int,int)", "int giving(int,int)", "int mean(int,int,int)",
        "int roll(int,int)", "int whose(int,int)", "int manors(int,int,int)", "int image()", "int restore()",
        "int count(int)", "long digest()",
    };

    public static void main(String[] args) throws IOException {
        face();
        constants();
        insides();
        source();
        due.end();
    }

    private static void face() {
        due.holds("the class is public and final",
            BestBeast.class.getModifiers() == (Modifier.PUBLIC | Modifier.FINAL));
        Set<String> seen = new TreeSet<>();
        Set<String> publicNames = new HashSet<>();
        for (Method m : BestBeast.class.getDeclaredMethods()) {
            if (m.getModifiers() == Modifier.PUBLIC) {
                seen.add(m.toString().replace("public ", "").replace("BestBeast.", ""));
                publicNames.add(m.getName());
            }
        }
        due.holds("the public methods are those of the document: " + seen, seen.equals(Set.of(FACE)));
        for (Method m : BestBeast.class.getDeclaredMethods()) {
            if (m.getModifiers() != Modifier.PUBLIC) {
                due.holds(m + " is private", Modifier.isPrivate(m.getModifiers()));
                due.holds(m + " bears no public name", !publicNames.contains(m.getName()));
            }
        }
        Constructor<?>[] made = BestBeast.class.getDeclaredConstructors();
        due.is("how many constructors", made.length, 1);
        due.holds("the constructor is public", made[0].getModifiers() == Modifier.PUBLIC);
        due.is("its parameters", made[0].getParameterCount(), 0);
    }

    private static void constants() {
        Set<String> open = new TreeSet<>();
        for (Field f : BestBeast.class.getDeclaredFields()) {
            int m = f.getModifiers();
            if (Modifier.isPublic(m)) {
                open.add(f.getName());
                due.holds(f + " is a constant", Modifier.isStatic(m) && Modifier.isFinal(m));
            } else {
                due.holds(f + " is private", Modifier.isPrivate(m));
            }
            due.holds(f + ", if static, is final", !Modifier.isStatic(m) || Modifier.isFinal(m));
        }
        due.holds("the constants are those of the document: " + open,
            open.equals(Set.of("NONE", "UNKNOWN", "OUTSIDE", "STATE", "FULL")));
        due.is("NONE", BestBeast.NONE, -1);
        due.is("UNKNOWN", BestBeast.UNKNOWN, -101);
        due.is("OUTSIDE", BestBeast.OUTSIDE, -102);
        due.is("STATE", BestBeast.STATE, -103);
        due.is("FULL", BestBeast.FULL, -104);
    }

    private static void insides() {
        Class<?>[] inside = BestBeast.class.getDeclaredClasses();
        due.holds("at most eleven classes inside", inside.length <= 11);
        for (Class<?> c : inside) {
            int m = c.getModifiers();
            due.holds(c + " is static", Modifier.isStatic(m));
            due.holds(c + " is neither public nor protected", !Modifier.isPublic(m) && !Modifier.isProtected(m));
            int fields = 0;
            for (Field f : c.getDeclaredFields()) {
                fields += Modifier.isStatic(f.getModifiers()) ? 0 : 1;
            }
            due.holds(c + " has at most twenty fields", fields <= 20);
        }
    }

    private static void source() throws IOException {
        String all = Files.readString(Path.of("src/main/java/BestBeast.java"), StandardCharsets.ISO_8859_1);
        due.holds("no sign above 126", all.chars().allMatch(c -> c == '\n' || (c >= 32 && c <= 126)));
        String code = all.replaceAll("(?s)/\\*.*?\\*/", "").replaceAll("//[^\n]*", "");
        String[] words = {
            "throw", "throws", "try", "catch", "finally", "synchronized", "assert", "import", "package", "native",
            "volatile", "transient", "var", "Object", "Class", "System.out", "System.nanoTime", "Random", "Thread",
            "yield", "String.format", "double", "float", "equals", "hashCode", "toString", "protected",
        };
        for (String word : words) {
            due.holds("no '" + word + "'", !Pattern.compile("\\b" + Pattern.quote(word) + "\\b").matcher(code).find());
        }
        due.holds("no lambda", !code.contains("->"));
        due.holds("no method reference", !code.contains("::"));
        for (String line : code.split("\n")) {
            // a room holds all that any call ever makes, so calls make nothing
            boolean makes = line.contains("new ");
            due.holds("made once: " + line.trim(), !makes || line.trim().matches("(private )?final .*"));
        }
    }
}

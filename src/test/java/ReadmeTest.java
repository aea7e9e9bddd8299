import java.io.IOException;
import java.io.StringWriter;
import java.net.URI;
import java.net.URL;
import java.net.URLClassLoader;
import java.nio.file.Files;
import java.nio.file.Path;
import java.util.ArrayList;
import java.util.HashSet;
import java.util.LinkedHashMap;
import java.util.List;
import java.util.Map;
import java.util.Set;
import java.util.TreeSet;
import java.util.function.Consumer;
import java.util.regex.Matcher;
import java.util.regex.Pattern;
import java.util.stream.Stream;
import javax.tools.JavaCompiler;
import javax.tools.JavaFileObject;
import javax.tools.SimpleJavaFileObject;
import javax.tools.ToolProvider;

/** README.md: its samples answer as they tell, its tables are of the calls and the tests that there are. */
public final class ReadmeTest {
    private static final Due due = new Due("ReadmeTest");
    private static final Pattern SAMPLE = Pattern.compile("(?s)```java\n(.*?)```");
    private static final Pattern ANSWERED =
        Pattern.compile("\\s*(?:int (\\w+) = )?(manor\\.(\\w+)\\(.*\\));\\s+// (-?\\d+|[A-Z]+)\\b.*");
    private static final Pattern ROW = Pattern.compile("(?m)^\\| `(\\w+)\\(([^)]*)\\)` \\|([^|]*)\\|([^|]*)\\|$");
    private static final Pattern REFUSAL = Pattern.compile("\\b(UNKNOWN|OUTSIDE|STATE|FULL)\\b");
    private static final Map<String, Integer> NAMES = Map.of("NONE", BestBeast.NONE, "UNKNOWN", BestBeast.UNKNOWN,
        "OUTSIDE", BestBeast.OUTSIDE, "STATE", BestBeast.STATE, "FULL", BestBeast.FULL);

    private final Set<String> answered = new HashSet<>();
    private final Set<String> refusals = new HashSet<>();

    public static void main(String[] args) throws Exception {
        String readme = Files.readString(Path.of("README.md"));
        ReadmeTest test = new ReadmeTest();
        test.samples(readme);
        theNumbersOfTheConstants(readme);
        theRefusalsOfEachCall(readme);
        theParametersOfEachCall(readme);
        theTests(readme);
        due.end();
    }

    private void samples(String readme) throws Exception {
        Matcher sample = SAMPLE.matcher(readme);
        int many = 0;
        while (sample.find()) {
            sample("Sample" + many, sample.group(1).split("\n"));
            many++;
        }
        due.is("how many samples", many, 2);
        due.holds("each call is in a sample: " + answered, answered.containsAll(Calls.NAMES));
        due.holds("each refusal is in a sample: " + refusals,
            refusals.equals(Set.of("UNKNOWN", "OUTSIDE", "STATE", "FULL")));
    }

    /** The sample as it stands, but that each call whose answer is told adds what it answered to a list. */
    private void sample(String name, String[] lines) throws Exception {
        StringBuilder code = new StringBuilder("public final class ").append(name)
            .append(" implements java.util.function.Consumer<java.util.List<Long>> {\n")
            .append("public void accept(java.util.List<Long> answers) {\n");
        List<String> calls = new ArrayList<>();
        List<Long> wants = new ArrayList<>();
        for (String line : lines) {
            Matcher told = ANSWERED.matcher(line);
            if (told.matches()) {
                boolean isNamed = told.group(1) != null;
                code.append(isNamed ? line.substring(0, line.indexOf(';') + 1) : "").append("answers.add((long) ")
                    .append(isNamed ? told.group(1) : told.group(2)).append(");\n");
                calls.add(told.group(2));
                answered.add(told.group(3));
                wants.add(want(told.group(4)));
            } else {
                due.holds("an answer is told: " + line, !line.startsWith("manor.") && !line.startsWith("int "));
                code.append(line).append('\n');
            }
        }
        List<Long> got = run(name, code.append("}\n}\n").toString());
        due.is("how many answers of " + name, got.size(), wants.size());
        for (int i = 0; i < Math.min(got.size(), wants.size()); i++) {
            due.is(calls.get(i) + " in README.md", got.get(i), wants.get(i));
        }
    }

    private long want(String told) {
        if (NAMES.containsKey(told)) {
            if (!told.equals("NONE")) {
                refusals.add(told);
            }
            return NAMES.get(told);
        }
        due.holds("an answer: " + told, told.matches("-?\\d+"));
        return told.matches("-?\\d+") ? Long.parseLong(told) : 0;
    }

    @SuppressWarnings("unchecked")
    private static List<Long> run(String name, String code) throws Exception {
        List<Long> answers = new ArrayList<>();
        Path folder = Files.createTempDirectory("readme");
        try {
            if (compiles(name, code, folder)) {
                try (URLClassLoader loader = new URLClassLoader(new URL[] {folder.toUri().toURL()})) {
                    Object sample = loader.loadClass(name).getDeclaredConstructor().newInstance();
                    ((Consumer<List<Long>>) sample).accept(answers);
                }
            }
        } finally {
            Files.deleteIfExists(folder.resolve(name + ".class"));
            Files.deleteIfExists(folder);
        }
        return answers;
    }

    private static boolean compiles(String name, String code, Path folder) {
        JavaCompiler compiler = ToolProvider.getSystemJavaCompiler();
        JavaFileObject source = new SimpleJavaFileObject(URI.create("string:///" + name + ".java"),
            JavaFileObject.Kind.SOURCE) {
            @Override
            public CharSequence getCharContent(boolean ignoreEncodingErrors) {
                return code;
            }
        };
        StringWriter said = new StringWriter();
        List<String> options = List.of("-d", folder.toString(), "-cp", System.getProperty("java.class.path"));
        boolean compiled = compiler.getTask(said, null, null, options, null, List.of(source)).call();
        due.holds(name + " compiles: " + said, compiled);
        return compiled;
    }

    private static void theNumbersOfTheConstants(String readme) {
        for (Map.Entry<String, Integer> constant : NAMES.entrySet()) {
            String told = "`" + constant.getKey() + "` (" + constant.getValue();
            due.holds("README.md tells " + told, readme.replaceAll("\\s+", " ").contains(told));
        }
    }

    private static List<String> refusalsIn(String text) {
        List<String> all = new ArrayList<>();
        Matcher refusal = REFUSAL.matcher(text);
        while (refusal.find()) {
            all.add(refusal.group(1));
        }
        return all;
    }

    private static void theRefusalsOfEachCall(String readme) {
        Map<String, List<String>> told = new LinkedHashMap<>();
        Matcher row = ROW.matcher(readme);
        while (row.find()) {
            told.put(row.group(1), refusalsIn(row.group(4)));
            due.holds("what " + row.group(1) + " answers is no refusal", refusalsIn(row.group(3)).isEmpty());
        }
        due.holds("README.md has a row for each call: " + told.keySet(),
            List.copyOf(told.keySet()).equals(Calls.NAMES));
        for (String name : Calls.NAMES) {
            List<String> want = refusalsDue(name);
            due.holds("refusals of " + name + ": " + told.get(name) + ", due are " + want, want.equals(told.get(name)));
        }
    }

    /** Those that the document's promise names, in its order. */
    private static List<String> refusalsDue(String name) {
        switch (name) {
            case "letter": case "holder": return List.of("OUTSIDE", "FULL");
            case "law": case "restore": return List.of("STATE");
            case "about": case "as": case "beastOf": case "roll": return List.of("UNKNOWN", "OUTSIDE");
            case "heir": return List.of("UNKNOWN");
            case "beast": return List.of("UNKNOWN", "OUTSIDE", "STATE", "FULL");
            case "give": case "die": case "whose": return List.of("UNKNOWN", "STATE");
            case "safe": case "giving": case "mean": return List.of("UNKNOWN", "OUTSIDE", "STATE");
            case "manors": return List.of("OUTSIDE", "STATE");
            case "count": return List.of("OUTSIDE");
            default: return List.of();
        }
    }

    private static void theParametersOfEachCall(String readme) {
        Matcher row = ROW.matcher(readme);
        while (row.find() && Calls.NAMES.contains(row.group(1))) {
            int many = row.group(2).isEmpty() ? 0 : row.group(2).split(", ").length;
            due.is("parameters of " + row.group(1), many, Calls.parameters(row.group(1)));
        }
    }

    private static void theTests(String readme) throws IOException {
        Set<String> there = new TreeSet<>();
        try (Stream<Path> files = Files.list(Path.of("src/test/java"))) {
            files.map(file -> file.getFileName().toString()).filter(file -> file.endsWith("Test.java"))
                .forEach(file -> there.add(file.replace(".java", "")));
        }
        Set<String> told = new TreeSet<>();
        Matcher test = Pattern.compile("`(\\w+Test)`").matcher(readme);
        while (test.find()) {
            told.add(test.group(1));
        }
        due.holds("README.md tells of " + told + ", there are " + there, told.equals(there));
    }
}

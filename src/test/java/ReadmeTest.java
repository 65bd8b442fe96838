import java.io.IOException;
import java.lang.reflect.Method;
import java.lang.reflect.Modifier;
import java.net.URL;
import java.net.URLClassLoader;
import java.nio.file.Files;
import java.nio.file.Path;
import java.util.Comparator;
import java.util.List;
import java.util.Set;
import java.util.TreeMap;
import java.util.TreeSet;
import java.util.regex.Matcher;
import java.util.regex.Pattern;
import java.util.stream.Collectors;
import java.util.stream.Stream;
import javax.tools.ToolProvider;

/** README.md is right: its example answers as its comments say, and its tables name every call and every test there is. */
public final class ReadmeTest {
    private static final Path README = Path.of("README.md");
    private static final Path DOCUMENT = Path.of("../shared/DOC.md");
    private static final Path TESTS = Path.of("src/test/java");
    private static final Pattern EXAMPLE = Pattern.compile("(?s)```java\\n(.*?)```");
    private static final Pattern ANSWERED = Pattern.compile("(x\\.\\w+\\(.*\\)); +// (-?\\d+): (.*)");
    private static final Pattern TOLD = Pattern.compile("(x\\.\\w+\\(\\)) is (-?\\d+)");
    private static final Pattern CALLS = Pattern.compile("(?m)^\\| ((?:`\\w+` )+)\\| (\\d+) (?:to|and) (\\d+) \\|");
    private static final Pattern PROMISE = Pattern.compile("(?m)^## Promise (\\d+): (\\w+)$");
    private static final Pattern LISTED_TESTS = Pattern.compile("(?m)^\\| ([\\w.]+Test(?:, \\w+Test)*) \\|");

    private static final Due DUE = new Due("README.md");

    public static void main(String[] args) throws Exception {
        String page = Files.readString(README);
        example(page);
        calls(page);
        tests(page);
        DUE.end();
    }

    /** For the compiled example. */
    public static void is(String call, long got, long want) {
        DUE.is(call, got, want);
    }

    private static void example(String page) throws Exception {
        Matcher block = EXAMPLE.matcher(page);
        DUE.is("an example", block.find() ? 1 : 0, 1);
        Path folder = Files.createTempDirectory("readme");
        try {
            run(folder, block.group(1));
        } finally {
            remove(folder);
        }
    }

    private static void run(Path folder, String code) throws Exception {
        Path source = Files.writeString(folder.resolve("Example.java"), "public final class Example {\n"
                + "public static void run() {\n" + checked(code) + "}\n}\n");
        int compiled = ToolProvider.getSystemJavaCompiler().run(null, null, null,
                "-proc:none", "-d", folder.toString(), "-cp", System.getProperty("java.class.path"), source.toString());
        DUE.is("the example, compiled", compiled, 0);
        if (compiled == 0) {
            try (URLClassLoader loader = new URLClassLoader(new URL[] {folder.toUri().toURL()})) {
                loader.loadClass("Example").getMethod("run").invoke(null);
            }
        }
    }

    /** The example's lines; each that tells its answer is looked at, and so is what its comment says of further calls. */
    private static String checked(String code) {
        StringBuilder all = new StringBuilder();
        int found = 0;
        for (String line : code.split("\n")) {
            Matcher answered = ANSWERED.matcher(line);
            if (!answered.matches()) {
                all.append(line).append('\n');
                continue;
            }
            found++;
            all.append(look(answered.group(1), answered.group(2)));
            Matcher told = TOLD.matcher(answered.group(3));
            while (told.find()) {
                all.append(look(told.group(1), told.group(2)));
            }
        }
        DUE.is("the example has answers", found > 0 ? 1 : 0, 1);
        return all.toString();
    }

    private static String look(String call, String want) {
        return "ReadmeTest.is(\"" + call + "\", " + call + ", " + want + ");\n";
    }

    private static void remove(Path folder) throws IOException {
        try (Stream<Path> all = Files.walk(folder)) {
            for (Path path : all.sorted(Comparator.reverseOrder()).toList()) {
                Files.delete(path);
            }
        }
    }

    /** Each row of the table has the calls of its promises, in their order, and the rows together have all. */
    private static void calls(String page) throws IOException {
        TreeMap<Integer, String> promises = new TreeMap<>();
        Matcher promise = PROMISE.matcher(Files.readString(DOCUMENT));
        while (promise.find()) {
            promises.put(Integer.parseInt(promise.group(1)), promise.group(2));
        }
        Set<String> named = new TreeSet<>();
        Matcher row = CALLS.matcher(page);
        while (row.find()) {
            List<String> calls = List.of(row.group(1).replace("`", "").strip().split(" "));
            named.addAll(calls);
            List<String> due = List.copyOf(
                    promises.subMap(Integer.parseInt(row.group(2)), true, Integer.parseInt(row.group(3)), true).values());
            same("calls of promises " + row.group(2) + " to " + row.group(3), calls, due);
        }
        Set<String> face = Stream.of(KissClearing.class.getDeclaredMethods())
                .filter(method -> Modifier.isPublic(method.getModifiers())).map(Method::getName).collect(Collectors.toSet());
        same("calls", named, new TreeSet<>(face));
    }

    /** The table of tests; 'EdgesOf..Test' stands for all whose names begin and end so. */
    private static void tests(String page) throws IOException {
        Set<String> listed = new TreeSet<>();
        Matcher row = LISTED_TESTS.matcher(page);
        while (row.find()) {
            listed.addAll(List.of(row.group(1).split(", ")));
        }
        Set<String> there = new TreeSet<>();
        try (Stream<Path> files = Files.list(TESTS)) {
            files.map(file -> file.getFileName().toString()).filter(name -> name.endsWith("Test.java"))
                    .forEach(name -> there.add(name.replace(".java", "").replaceFirst("^EdgesOf\\w+Test$", "EdgesOf..Test")));
        }
        same("tests", listed, there);
    }

    private static void same(String what, Object got, Object want) {
        DUE.is(what + " are " + got + ", due are " + want + ": alike", got.equals(want) ? 1 : 0, 1);
    }
}

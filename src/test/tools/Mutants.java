import java.io.ByteArrayOutputStream;
import java.io.IOException;
import java.io.OutputStream;
import java.io.PrintStream;
import java.net.URI;
import java.nio.file.Files;
import java.nio.file.Path;
import java.util.ArrayList;
import java.util.LinkedHashMap;
import java.util.List;
import java.util.Map;
import java.util.Set;
import java.util.TreeSet;
import java.util.concurrent.ConcurrentHashMap;
import java.util.concurrent.ExecutorService;
import java.util.concurrent.Executors;
import java.util.concurrent.TimeUnit;
import java.util.regex.Matcher;
import java.util.regex.Pattern;
import javax.tools.FileObject;
import javax.tools.ForwardingJavaFileManager;
import javax.tools.JavaCompiler;
import javax.tools.JavaFileManager;
import javax.tools.JavaFileObject;
import javax.tools.SimpleJavaFileObject;
import javax.tools.StandardJavaFileManager;
import javax.tools.ToolProvider;

/**
 * Breaks the class in many small ways and looks which of the tests of sentences fail then: a mutant that none sees, or a test
 * that no mutant fails, is worth a look. Mutants that none sees are held against the model, too: one that differs from it wants
 * a test. It is run by hand (README.md says how), for it takes minutes.
 */
public final class Mutants {
    private static final Path MAIN = Path.of("src/main/java/KissClearing.java");
    private static final String[] TESTS = {"EdgesOfTermsTest", "EdgesOfRowsTest", "EdgesOfTextsTest", "EdgesOfDeedsTest",
        "EdgesOfNettingTest", "EdgesOfFallsTest", "EdgesOfRatesTest", "EdgesOfToldTest"};
    private static final String[][] SWAPS = {
        {" < ", " <= "}, {" <= ", " < "}, {" > ", " >= "}, {" >= ", " > "}, {" == ", " != "}, {" != ", " == "},
        {" && ", " || "}, {" || ", " && "}, {" + ", " - "}, {" - ", " + "}, {" * ", " + "}, {" / ", " * "}, {" % ", " / "},
        {" += ", " -= "}, {" -= ", " += "}, {"++", "--"}, {"--", "++"}, {"Math.min", "Math.max"}, {"Math.max", "Math.min"},
        {" | ", " & "}, {" & ", " | "}, {"true", "false"}, {"false", "true"}, {"(byte) ", ""}, {"(long) ", ""}, {"!", ""}};
    private static final String[] REFUSALS = {"BAD", "FULL", "STATE", "NONE"};
    private static final String[] FINDINGS = {"NOTHING", "BEYOND", "UNLIKE", "NOUGHT", "SIZE"};
    private static final String UNCOMPILED = "uncompiled", LOST = "lost", TIMEOUT = "timeout", MODEL = "model";
    private static final int MODEL_RUNS = 1500;
    /** What says nothing of the tests: neither that they see a mutant, nor that they don't. */
    private static final Set<String> UNCLEAR = Set.of(LOST, TIMEOUT);
    private static final long MOST_SECONDS = 60;

    private static final PrintStream OUT = System.out;

    private Mutants() {
    }

    public static void main(String[] args) throws Exception {
        System.setOut(new PrintStream(OutputStream.nullOutputStream()));
        String code = Files.readString(MAIN);
        Map<String, String> mutants = mutants(code);
        Map<String, TreeSet<String>> seen = new ConcurrentHashMap<>();
        ExecutorService pool = Executors.newFixedThreadPool(Math.max(1, Runtime.getRuntime().availableProcessors() - 1));
        for (Map.Entry<String, String> mutant : mutants.entrySet()) {
            pool.submit(() -> seen.put(mutant.getKey(), failed(mutant.getValue())));
        }
        pool.shutdown();
        pool.awaitTermination(2, TimeUnit.HOURS);
        report(mutants.keySet(), seen);
        // Threads of mutants that never end may be about yet.
        System.exit(0);
    }

    private static void report(Set<String> mutants, Map<String, TreeSet<String>> seen) throws IOException {
        int uncompiled = 0;
        TreeSet<String> unseen = new TreeSet<>();
        TreeSet<String> differing = new TreeSet<>();
        TreeSet<String> unclear = new TreeSet<>();
        TreeSet<String> never = sentences();
        for (String name : mutants) {
            TreeSet<String> by = seen.getOrDefault(name, new TreeSet<>(List.of(LOST)));
            if (by.contains(UNCOMPILED)) {
                uncompiled++;
            } else if (by.isEmpty()) {
                unseen.add(name);
            } else if (by.contains(MODEL)) {
                differing.add(name);
            } else if (UNCLEAR.containsAll(by)) {
                unclear.add(by + " " + name);
            }
            never.removeAll(by);
        }
        OUT.println(mutants.size() - uncompiled + " mutants");
        list("that no test sees, nor the model", unseen);
        list("that no test sees, but the model", differing);
        list("that were lost, or did not end and failed no test till then", unclear);
        list("tests that no mutant fails", never);
    }

    private static void list(String what, TreeSet<String> names) {
        OUT.println(names.size() + " " + what + ":");
        names.forEach(name -> OUT.println("  " + name));
    }

    /** Each mutant by the line that it changes. */
    private static Map<String, String> mutants(String code) {
        Map<String, String> mutants = new LinkedHashMap<>();
        String[] lines = code.split("\n", -1);
        for (int i = 0; i < lines.length; i++) {
            String line = lines[i];
            if (line.strip().startsWith("/") || line.strip().startsWith("*")) {
                continue;
            }
            for (String[] swap : SWAPS) {
                for (int at = line.indexOf(swap[0]); at >= 0; at = line.indexOf(swap[0], at + 1)) {
                    add(mutants, lines, i, line.substring(0, at) + swap[1] + line.substring(at + swap[0].length()));
                }
            }
            numbers(mutants, lines, i);
            names(mutants, lines, i, "return (BAD|FULL|STATE|NONE);", REFUSALS);
            names(mutants, lines, i, "refuse\\((NOTHING|BEYOND|UNLIKE|NOUGHT|SIZE)\\)", FINDINGS);
            if (line.strip().matches("(if|for|while) \\(.*\\{") && line.contains("if (")) {
                add(mutants, lines, i, line.replaceFirst("if \\((.*)\\) \\{$", "if (false && ($1)) {"));
                add(mutants, lines, i, line.replaceFirst("if \\((.*)\\) \\{$", "if (true || ($1)) {"));
            }
            if (line.strip().matches("[\\w.\\[\\]]+ (=|\\+=|-=|\\|=|&=) .*;|[\\w.\\[\\]]+(\\+\\+|--);|[\\w.]+\\(.*\\);")) {
                add(mutants, lines, i, "");
            }
            swapped(mutants, lines, i);
        }
        return mutants;
    }

    private static void add(Map<String, String> mutants, String[] lines, int i, String changed) {
        if (changed.equals(lines[i])) {
            return;
        }
        String[] all = lines.clone();
        all[i] = changed;
        mutants.put(String.format("%04d: %s  =>  %s", i + 1, lines[i].strip(), changed.strip()), String.join("\n", all));
    }

    private static void numbers(Map<String, String> mutants, String[] lines, int i) {
        Matcher number = Pattern.compile("(?<![\\w.'])\\d[\\d_]*(?![\\w.'])").matcher(lines[i]);
        while (number.find()) {
            long value = Long.parseLong(number.group().replace("_", ""));
            for (long other : new long[] {value - 1, value + 1}) {
                add(mutants, lines, i, lines[i].substring(0, number.start()) + other + lines[i].substring(number.end()));
            }
        }
    }

    private static void names(Map<String, String> mutants, String[] lines, int i, String pattern, String[] names) {
        Matcher found = Pattern.compile(pattern).matcher(lines[i]);
        if (found.find()) {
            for (String other : names) {
                add(mutants, lines, i, lines[i].substring(0, found.start(1)) + other + lines[i].substring(found.end(1)));
            }
        }
    }

    /** Two refusals, one right behind the other, in the other order. */
    private static void swapped(Map<String, String> mutants, String[] lines, int i) {
        int second = endOfRefusal(lines, i);
        int end = second < 0 ? -1 : endOfRefusal(lines, second);
        if (end < 0) {
            return;
        }
        List<String> all = new ArrayList<>(List.of(lines).subList(0, i));
        all.addAll(List.of(lines).subList(second, end));
        all.addAll(List.of(lines).subList(i, second));
        all.addAll(List.of(lines).subList(end, lines.length));
        mutants.put(String.format("%04d: %s  changes places with  %s", i + 1, lines[i].strip(), lines[second].strip()),
                String.join("\n", all));
    }

    private static int endOfRefusal(String[] lines, int i) {
        boolean is = i + 2 < lines.length && lines[i].strip().startsWith("if (") && lines[i + 1].strip().startsWith("return ")
                && lines[i + 2].strip().equals("}");
        return is ? i + 3 : -1;
    }

    private static TreeSet<String> sentences() throws IOException {
        TreeSet<String> all = new TreeSet<>();
        for (String test : TESTS) {
            String code = Files.readString(Path.of("src/test/java/" + test + ".java"));
            code = code.replaceAll("\"\\s*\\n\\s*\\+ \"", "");
            Matcher named = Pattern.compile("edges\\.of\\((\\w+), \"((?:[^\"\\\\]|\\\\.)*)\"").matcher(code);
            while (named.find()) {
                all.add((named.group(1).equals("TERMS") ? "Terms" : "promise " + named.group(1)) + ", '" + named.group(2) + "'");
            }
        }
        return all;
    }

    private static TreeSet<String> failed(String code) {
        TreeSet<String> by = new TreeSet<>();
        try {
            Map<String, byte[]> classes = compile(code);
            if (classes == null) {
                by.add(UNCOMPILED);
                return by;
            }
            Thread run = new Thread(() -> run(classes, by));
            run.setDaemon(true);
            run.start();
            run.join(MOST_SECONDS * 1000);
            if (run.isAlive()) {
                stop(run);
                synchronized (by) {
                    by.add(TIMEOUT);
                }
            }
        } catch (InterruptedException | IOException broken) {
            by.add(LOST);
        }
        return by;
    }

    /** There is no other way to end a mutant that never ends. */
    @SuppressWarnings({"deprecation", "removal"})
    private static void stop(Thread run) {
        run.stop();
    }

    private static void run(Map<String, byte[]> classes, TreeSet<String> by) {
        ClassLoader loader = new Loader(classes);
        for (String test : TESTS) {
            try {
                var look = loader.loadClass(test).getDeclaredMethod("look");
                look.setAccessible(true);
                Object edges = look.invoke(null);
                var failed = edges.getClass().getDeclaredMethod("failed");
                failed.setAccessible(true);
                for (Object name : (List<?>) failed.invoke(edges)) {
                    synchronized (by) {
                        by.add(name.toString().replaceAll("(?s)': .*", "'"));
                    }
                }
            } catch (ReflectiveOperationException thrown) {
                synchronized (by) {
                    by.add("thrown in " + test);
                }
            }
        }
        boolean unseen;
        synchronized (by) {
            unseen = by.isEmpty();
        }
        if (unseen && differs(loader)) {
            synchronized (by) {
                by.add(MODEL);
            }
        }
    }

    private static boolean differs(ClassLoader loader) {
        try {
            var look = loader.loadClass("ModelTest").getDeclaredMethod("firstDiffering", int.class, long.class);
            look.setAccessible(true);
            return !look.invoke(null, MODEL_RUNS, 1L).equals("");
        } catch (ReflectiveOperationException thrown) {
            return true;
        }
    }

    private static Map<String, byte[]> compile(String code) throws IOException {
        JavaCompiler compiler = ToolProvider.getSystemJavaCompiler();
        Map<String, byte[]> made = new ConcurrentHashMap<>();
        try (StandardJavaFileManager files = compiler.getStandardFileManager(problem -> { }, null, null)) {
            JavaFileObject source = new SimpleJavaFileObject(URI.create("string:///KissClearing.java"), JavaFileObject.Kind.SOURCE) {
                @Override
                public CharSequence getCharContent(boolean ignored) {
                    return code;
                }
            };
            JavaFileManager kept = new ForwardingJavaFileManager<>(files) {
                @Override
                public JavaFileObject getJavaFileForOutput(Location where, String name, JavaFileObject.Kind kind, FileObject beside) {
                    return new SimpleJavaFileObject(URI.create("mem:///" + name + ".class"), kind) {
                        @Override
                        public OutputStream openOutputStream() {
                            return new ByteArrayOutputStream() {
                                @Override
                                public void close() {
                                    made.put(name, toByteArray());
                                }
                            };
                        }
                    };
                }
            };
            boolean fine = compiler.getTask(null, kept, problem -> { }, null, null, List.of(source)).call();
            return fine ? made : null;
        }
    }

    /** The mutant's classes, and the tests' own, anew for each mutant. */
    private static final class Loader extends ClassLoader {
        private final Map<String, byte[]> classes;

        Loader(Map<String, byte[]> classes) {
            super(Mutants.class.getClassLoader());
            this.classes = classes;
        }

        @Override
        protected Class<?> loadClass(String name, boolean resolve) throws ClassNotFoundException {
            synchronized (getClassLoadingLock(name)) {
                Class<?> loaded = findLoadedClass(name);
                if (loaded != null) {
                    return loaded;
                }
                byte[] bytes = classes.get(name);
                if (bytes == null && name.matches("(Edges|Due|Model|KissClearing).*")) {
                    bytes = read(name);
                }
                return bytes == null ? super.loadClass(name, resolve) : defineClass(name, bytes, 0, bytes.length);
            }
        }

        private static byte[] read(String name) throws ClassNotFoundException {
            try (var in = Mutants.class.getClassLoader().getResourceAsStream(name + ".class")) {
                if (in == null) {
                    throw new ClassNotFoundException(name);
                }
                return in.readAllBytes();
            } catch (IOException broken) {
                throw new ClassNotFoundException(name, broken);
            }
        }
    }
}

import java.io.IOException;
import java.nio.charset.StandardCharsets;
import java.nio.file.Files;
import java.nio.file.Path;
import java.util.ArrayList;
import java.util.List;
import java.util.Map;
import java.util.TreeMap;
import java.util.function.Consumer;
import java.util.regex.Matcher;
import java.util.regex.Pattern;

/**
 * Tests of single sentences. Each says of which promise and sentence it is, in the document's own words, which are looked
 * up there: so no test quotes what the document does not say, and no word of a promise is left without a test.
 */
final class Edges {
    /** The number under which the document's 'Terms' are quoted. */
    static final int TERMS = 0;

    private static final Path DOCUMENT = Path.of("../shared/DOC.md");
    private static final Pattern SECTION = Pattern.compile("(?ms)^## (Terms|Promise (\\d+):[^\\n]*)\\n(.*?)(?=^## |\\z)");

    private final Map<Integer, String> said = new TreeMap<>();
    private final Map<Integer, boolean[]> quoted = new TreeMap<>();
    private final List<String> failed = new ArrayList<>();
    private int tests = 0;

    Edges() {
        try {
            read(Files.readString(DOCUMENT, StandardCharsets.UTF_8));
        } catch (IOException missing) {
            throw new IllegalStateException("no document: " + DOCUMENT, missing);
        }
    }

    private void read(String document) {
        Matcher section = SECTION.matcher(document);
        while (section.find()) {
            boolean terms = section.group(2) == null;
            String text = terms ? section.group(3).replaceAll("(?m)^(Ahead of the calls|```).*$", "")
                    : section.group(3).replaceFirst("^\\s*`[^`]*`:", "");
            int number = terms ? TERMS : Integer.parseInt(section.group(2));
            said.put(number, text.replaceAll("\\s+", " ").strip());
            quoted.put(number, new boolean[said.get(number).length()]);
        }
    }

    /** The test of a sentence; it has a Due of its own, and objects of its own. */
    void of(int promise, String sentence, Consumer<Due> test) {
        tests++;
        String name = (promise == TERMS ? "Terms" : "promise " + promise) + ", '" + sentence + "'";
        if (!quote(promise, sentence)) {
            fail(name + ": the document does not say so, or it was quoted already");
        }
        Due due = new Due(name);
        try {
            test.accept(due);
        } catch (RuntimeException thrown) {
            fail(name + ": " + thrown);
            return;
        }
        if (due.wrong() > 0 || due.looked() == 0) {
            fail(name + (due.looked() == 0 ? ": nothing was looked at" : ""));
        }
    }

    /** Marks the first place at which the sentence stands and is not wholly quoted yet. */
    private boolean quote(int promise, String sentence) {
        String text = said.getOrDefault(promise, "");
        for (int at = text.indexOf(sentence); at >= 0; at = text.indexOf(sentence, at + 1)) {
            boolean fresh = false;
            for (int i = at; i < at + sentence.length(); i++) {
                fresh |= !quoted.get(promise)[i];
            }
            if (fresh) {
                for (int i = at; i < at + sentence.length(); i++) {
                    quoted.get(promise)[i] = true;
                }
                return true;
            }
        }
        return false;
    }

    private void fail(String what) {
        failed.add(what);
        System.out.println("FAILED: " + what);
    }

    /** Every word of these promises has to be quoted by a test. */
    void wholly(int first, int last) {
        for (int promise = first; promise <= last; promise++) {
            String text = said.getOrDefault(promise, "");
            if (text.isEmpty()) {
                fail("promise " + promise + " is not in the document");
            }
            StringBuilder rest = new StringBuilder();
            for (int i = 0; i < text.length(); i++) {
                rest.append(quoted.get(promise)[i] ? ' ' : text.charAt(i));
            }
            if (Pattern.compile("\\w").matcher(rest).find()) {
                fail("promise " + promise + " says more than is tested: " + rest.toString().replaceAll(" +", " "));
            }
        }
    }

    List<String> failed() {
        return failed;
    }

    void end() {
        System.out.println(tests + " sentences, " + failed.size() + " failed");
        if (!failed.isEmpty()) {
            System.exit(1);
        }
    }
}

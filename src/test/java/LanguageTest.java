import java.io.IOException;
import java.nio.charset.StandardCharsets;
import java.nio.file.Files;
import java.nio.file.Path;
import java.util.List;
import java.util.regex.Matcher;
import java.util.regex.Pattern;

/** What LANGUAGE.md rules out and a look at the text can see: it stands nowhere in the class. */
public final class LanguageTest {
    private static final Path MAIN = Path.of("src/main/java/KissClearing.java");
    private static final List<String> RULED_OUT = List.of(
            "\\bimport\\b", "\\bpackage\\b", "\\bthrows?\\b", "\\btry\\b", "\\bcatch\\b", "\\bfinally\\b", "\\bsynchronized\\b",
            "\\bassert\\b", "->", "::", "\\bhashCode\\b", "\\bequals\\b", "\\btoString\\b", "\\bObject\\b", "\\bnull\\b",
            "\\bstatic\\s*\\{", "\\bvolatile\\b", "\\bnative\\b", "\\bException\\b", "\\bThread\\b", "\\bRandom\\b",
            "\\bwhile\\s*\\(\\s*true", "for\\s*\\(\\s*;", "\"");
    private static final Pattern LIBRARY = Pattern.compile("\\b(Math|Integer|Long|System|Arrays|String|List|Character)\\s*\\.\\s*(\\w+)");
    private static final List<String> LISTED = List.of(
            "Math.max", "Math.min", "Math.abs", "Math.floorMod", "Math.floorDiv", "Integer.bitCount", "System.arraycopy");
    private static final Pattern METHOD = Pattern.compile("^ +(?:(?:public|private|static|final) )*[\\w\\[\\]]+ \\w+\\(([^)]*)\\) \\{$");
    private static final int MOST_LINES = 60, MOST_PARAMETERS = 7;

    private static int wrong = 0;

    public static void main(String[] args) throws IOException {
        String text = Files.readString(MAIN, StandardCharsets.ISO_8859_1);
        look("signs beyond 127", text.chars().allMatch(c -> c < 128));
        String code = text.replaceAll("(?s)/\\*.*?\\*/", "").replaceAll("//[^\n]*", "");
        for (String pattern : RULED_OUT) {
            look(pattern, !Pattern.compile(pattern).matcher(code).find());
        }
        Matcher used = LIBRARY.matcher(code);
        while (used.find()) {
            look(used.group(), LISTED.contains(used.group(1) + "." + used.group(2)));
        }
        methods(text.split("\n"));
        System.out.println(wrong == 0 ? "the language is as due" : wrong + " things are ruled out");
        if (wrong != 0) {
            System.exit(1);
        }
    }

    private static void look(String what, boolean holds) {
        if (!holds) {
            wrong++;
            System.out.println("ruled out, but there: " + what);
        }
    }

    private static void methods(String[] lines) {
        int found = 0;
        for (int i = 0; i < lines.length; i++) {
            Matcher head = METHOD.matcher(lines[i]);
            if (!head.matches()) {
                continue;
            }
            found++;
            look(lines[i] + " has too many parameters", head.group(1).split(",").length <= MOST_PARAMETERS);
            String end = lines[i].substring(0, lines[i].length() - lines[i].stripLeading().length()) + "}";
            int last = i;
            while (last < lines.length && !lines[last].equals(end)) {
                last++;
            }
            look(lines[i] + " is too long", last - i <= MOST_LINES);
        }
        look("fewer methods than the face has: the pattern is not right", found > 45);
    }
}

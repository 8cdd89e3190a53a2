import java.io.IOException;
import java.nio.charset.StandardCharsets;
import java.nio.file.Files;
import java.nio.file.Path;
import java.util.Set;
import java.util.TreeSet;
import java.util.regex.Matcher;
import java.util.regex.Pattern;

/** What can be seen of LANGUAGE.md in the program's text alone. Runs in the project's root. */
public final class LanguageTest {
    private static final Path PROGRAM = Path.of("src/main/java/SurpriseTax.java");
    private static final String[] RULED_OUT = {"\\bthrow\\b", "\\bthrows\\b", "\\btry\\b", "\\bcatch\\b", "\\bfinally\\b",
        "\\bsynchronized\\b", "\\bassert\\b", "\\bpackage\\b", "\\bnative\\b", "\\bvolatile\\b", "\\bprotected\\b", "\\w+Exact\\b",
        "::", "\\bhashCode\\b", "\\btoString\\(\\) *\\{", "\\bequals\\(Object\\b", "\\bstatic *\\{", "\\bNaN\\b"};
    /** Rule 4; System stands for arraycopy alone. */
    private static final Set<String> LIBRARY = Set.of("String", "StringBuilder", "ArrayList", "List", "Arrays", "Integer", "Long",
        "Math", "Iterator", "Iterable", "Comparable", "System");

    private final Due due = new Due("LanguageTest");

    public static void main(String[] args) throws IOException {
        String text = Files.readString(PROGRAM, StandardCharsets.ISO_8859_1);
        LanguageTest test = new LanguageTest();
        String code = text.replaceAll("(?s)/\\*.*?\\*/", "").replaceAll("//[^\n]*", "");
        test.words(text, code);
        test.library(code);
        test.lengthsOfMethods(code);
        test.due.end();
    }

    private void words(String text, String code) {
        due.holds("signs are 1 to 127", text.chars().allMatch(c -> c > 0 && c < 128));
        for (String word : RULED_OUT) due.holds("no " + word, !Pattern.compile(word).matcher(code).find());
        for (String line : code.split("\n")) {
            due.holds("no lambda: " + line, !line.contains("->") || line.matches("\\s*(case\\b.*|default) ->.*"));
        }
    }

    /** Names of types: those that are written in letters of both sizes. */
    private void library(String code) {
        Set<String> own = new TreeSet<>();
        Matcher made = Pattern.compile("\\b(?:class|record|enum|interface) (\\w+)").matcher(code);
        while (made.find()) own.add(made.group(1));
        due.holds("classes were found", own.contains("SurpriseTax"));
        Matcher used = Pattern.compile("(?<![\\w.])[A-Z]\\w*[a-z]\\w*").matcher(code);
        while (used.find()) due.holds("the library has " + used.group(), own.contains(used.group()) || LIBRARY.contains(used.group()));
        Matcher system = Pattern.compile("\\bSystem\\.(\\w+)").matcher(code);
        while (system.find()) due.holds("System." + system.group(1), system.group(1).equals("arraycopy"));
        Matcher brought = Pattern.compile("(?m)^import (.*);").matcher(code);
        while (brought.find()) due.holds("import " + brought.group(1), brought.group(1).matches("java\\.util\\.(ArrayList|List|Arrays|Iterator)"));
    }

    private void lengthsOfMethods(String code) {
        int begin = 0, line = 0;
        for (String told : code.split("\n")) {
            line++;
            if (told.matches(" {4,8}[\\w\\[\\] ]+\\(.*\\{")) begin = line;
            if (told.matches(" {4,8}\\}")) due.holds("the method at " + begin + " has some sixty lines at most", line - begin <= 64);
        }
        due.holds("methods were found", begin > 0);
    }
}

import java.io.IOException;
import java.nio.charset.StandardCharsets;
import java.nio.file.Files;
import java.nio.file.Path;
import java.util.regex.Matcher;
import java.util.regex.Pattern;

/** What can be seen of LANGUAGE.md in the program's text alone. Runs in the project's root. */
public final class LanguageTest {
    private static final Path PROGRAM = Path.of("src/main/java/SurpriseTax.java");
    private static final String[] RULED_OUT = {"throw", "throws", "try", "catch", "finally", "synchronized", "assert",
        "package", "import", "instanceof", "yield", "var", "goto", "native", "volatile", "transient", "strictfp", "record",
        "protected", "interface", "abstract", "extends", "implements", "null", "double", "float", "this\\(", "Exact",
        "->", "::", "while", "do", "equals", "hashCode", "toString", "\""};

    private final Due due = new Due("LanguageTest");

    public static void main(String[] args) throws IOException {
        String text = Files.readString(PROGRAM, StandardCharsets.ISO_8859_1);
        LanguageTest test = new LanguageTest();
        String code = text.replaceAll("(?s)/\\*.*?\\*/", "").replaceAll("//[^\n]*", "");
        test.words(text, code);
        test.lengthsOfMethods(code);
        test.objectsMade(code);
        test.due.end();
    }

    /** More is ruled out here than in LANGUAGE.md, for the program does without it. */
    private void words(String text, String code) {
        due.holds("signs are 1 to 127", text.chars().allMatch(c -> c > 0 && c < 128));
        for (String word : RULED_OUT) {
            boolean isWord = Character.isLetter(word.charAt(0));
            Matcher found = Pattern.compile(isWord ? "\\b" + word + (word.endsWith("(") ? "" : "\\b") : word).matcher(code);
            due.holds("no " + word, !found.find());
        }
    }

    private void lengthsOfMethods(String code) {
        int begin = 0, line = 0;
        for (String told : code.split("\n")) {
            line++;
            if (told.matches(" {4,8}[\\w\\[\\] ]+\\(.*\\{")) begin = line;
            if (told.matches(" {4,8}\\}")) due.holds("the method at " + begin + " has sixty lines at most", line - begin <= 60);
        }
        due.holds("methods were found", begin > 0);
    }

    /** Objects are made as parts of the one that is made, never by a call. */
    private void objectsMade(String code) {
        Matcher found = Pattern.compile("(?m)^(.*)\\bnew\\b").matcher(code);
        while (found.find()) {
            due.holds("made for a field: " + found.group(), found.group(1).matches(" +private final [\\w\\[\\]]+ \\w+ = "));
        }
    }
}

import java.io.IOException;
import java.nio.file.Files;
import java.nio.file.Path;
import java.util.regex.Matcher;
import java.util.regex.Pattern;

/** The rules of LANGUAGE.md that can be seen in the text of the program. Run from the project's folder. */
public final class LanguageTest {
    private static final Check CHECK = new Check();
    private static final String SOURCE = "src/main/java/OwnerDominance.java";
    private static final String BANNED = "package|import|interface|enum|record|float|double|String|Object|Math|Integer"
            + "|System|Arrays|null|throw|throws|try|catch|finally|synchronized|assert|instanceof|protected|super"
            + "|Long|Character|Boolean|extends|implements";
    private static final int LONGEST_METHOD = 60;

    public static void main(String[] args) throws IOException {
        String text = Files.readString(Path.of(SOURCE)).replaceAll("(?s)/\\*.*?\\*/", "").replaceAll("//[^\n]*", "");
        absent(text, "\\b(" + BANNED + ")\\b");
        absent(text, "->|::|\"|'|@");
        absent(text, "\\[\\s*\\]\\s*\\[");
        absent(text, "(?m)^(?!    private final int\\[\\] \\w+ = new int\\[[A-Z_]+\\];$).*\\bnew\\b.*$");
        absent(text, "(?m)^    (?!public |private |}|$)\\S.*$");
        absent(text, "\\bstatic (?!final (int|long) [A-Z])");
        absent(text, "\\((int|long|short|byte|char)\\[\\]\\)");
        methods(text);
        CHECK.end();
    }

    private static void absent(String text, String pattern) {
        Matcher matcher = Pattern.compile(pattern).matcher(text);
        CHECK.same("what matches " + pattern, matcher.find() ? matcher.group() : "", "");
    }

    private static void methods(String text) {
        Matcher matcher = Pattern.compile("(?ms)^    (?:public|private) [^=;{]*\\(([^)]*)\\) \\{\n(.*?)^    }$").matcher(text);
        int count = 0;
        while (matcher.find()) {
            count++;
            String head = matcher.group().lines().findFirst().orElse("").trim();
            CHECK.due(head + " takes at most seven", matcher.group(1).split(",").length <= 7, true);
            CHECK.due(head + " is short", matcher.group(2).lines().count() <= LONGEST_METHOD, true);
            absent(matcher.group(2), "\\b(?!if\\b|for\\b|while\\b|switch\\b|return\\b)\\w+\\([^()]*\\b(?!if\\b)\\w+\\(");
        }
        CHECK.due("methods were found", count > 16, true);
    }
}

import java.io.IOException;
import java.lang.reflect.Field;
import java.lang.reflect.Modifier;
import java.nio.file.Files;
import java.nio.file.Path;
import java.util.Map;
import java.util.Set;
import java.util.TreeMap;
import java.util.TreeSet;
import java.util.regex.Matcher;
import java.util.regex.Pattern;

/** The rules of LANGUAGE.md that can be seen in the text of the program. Run from the project's folder. */
public final class LanguageTest {
    private static final Check CHECK = new Check();
    private static final String SOURCE = "src/main/java/OwnerDominance.java";
    private static final String BANNED = "package|import|interface|enum|record|float|double|String|Object|Math|Integer"
            + "|System|Arrays|null|throw|throws|try|catch|finally|synchronized|assert|instanceof|protected|super"
            + "|Long|Character|Boolean|extends|implements";
    private static final Pattern METHOD =
            Pattern.compile("(?ms)^    (?:public|private) [^=;{]*\\b(\\w+)\\(([^)]*)\\) \\{\n(.*?)^    }$");
    private static final Pattern CALL = Pattern.compile("\\b(\\w+)\\(");
    private static final Pattern LOOP = Pattern.compile("for \\(int (\\w+) = \\w+; [^;]*?\\b(\\w+) <=? [^;]*; (\\w+)\\+\\+\\) \\{");
    private static final int LONGEST_METHOD = 60;
    private static final int MOST_PARAMETERS = 7;
    private static final int DEEPEST_CALLS = 6;
    private static final int MOST_FIELDS = 40;

    public static void main(String[] args) throws IOException {
        String text = Files.readString(Path.of(SOURCE)).replaceAll("(?s)/\\*.*?\\*/", "").replaceAll("//[^\n]*", "");
        absent(text, "\\b(" + BANNED + ")\\b");
        absent(text, "->|::|\"|'|@");
        absent(text, "\\[\\s*\\]\\s*\\[");
        absent(text, "(?m)^(?!    private final int\\[\\] \\w+ = new int\\[[A-Z_]+\\];$).*\\bnew\\b.*$");
        absent(text, "(?m)^    (?!public |private |}|$)\\S.*$");
        absent(text, "\\bstatic (?!final (int|long) [A-Z])");
        absent(text, "\\((int|long|short|byte|char)\\[\\]\\)");
        methods(text);
        callDepth(text);
        loops(text);
        fields();
        CHECK.end();
    }

    private static void absent(String text, String pattern) {
        Matcher matcher = Pattern.compile(pattern).matcher(text);
        CHECK.same("what matches " + pattern, matcher.find() ? matcher.group() : "", "");
    }

    private static void methods(String text) {
        Matcher matcher = METHOD.matcher(text);
        int count = 0;
        while (matcher.find()) {
            count++;
            String name = matcher.group(1);
            String body = matcher.group(3);
            CHECK.due(name + " takes at most seven", matcher.group(2).split(",").length <= MOST_PARAMETERS, true);
            CHECK.due(name + " is short", body.lines().count() <= LONGEST_METHOD, true);
            absent(body, "\\b(?!if\\b|for\\b|while\\b|switch\\b|return\\b)\\w+\\([^()]*\\b(?!if\\b)\\w+\\(");
        }
        CHECK.due("methods were found", count, OwnerDominance.class.getDeclaredMethods().length + 1);
    }

    /** Recursion would show as a chain that is longer than any chain without one can be. */
    private static void callDepth(String text) {
        Map<String, Set<String>> calls = new TreeMap<>();
        Matcher matcher = METHOD.matcher(text);
        while (matcher.find()) {
            Set<String> called = calls.computeIfAbsent(matcher.group(1), name -> new TreeSet<>());
            Matcher call = CALL.matcher(matcher.group(3));
            while (call.find()) {
                called.add(call.group(1));
            }
        }
        Set<String> reached = calls.keySet();
        int deep = 0;
        for (; !reached.isEmpty() && deep <= DEEPEST_CALLS; deep++) {
            Set<String> next = new TreeSet<>();
            for (String name : reached) {
                next.addAll(calls.get(name));
            }
            next.retainAll(calls.keySet());
            reached = next;
        }
        CHECK.due("calls go at most six deep (" + deep + ")", deep > 1 && deep <= DEEPEST_CALLS, true);
    }

    /** Every loop counts up in its own head, and its body leaves the counter alone. */
    private static void loops(String text) {
        absent(text, "\\b(while|do)\\b");
        Matcher head = Pattern.compile("(?m)^( *)(for\\b.*)$").matcher(text);
        int count = 0;
        while (head.find()) {
            count++;
            Matcher loop = LOOP.matcher(head.group(2));
            boolean counts = loop.matches() && loop.group(1).equals(loop.group(2)) && loop.group(1).equals(loop.group(3));
            CHECK.due(head.group(2) + " counts up to a bound", counts, true);
            if (counts) {
                int end = text.indexOf("\n" + head.group(1) + "}", head.end());
                absent(text.substring(head.end(), end), "\\b" + loop.group(1) + "(\\+\\+|--| [-+*/%&|^]?= )");
            }
        }
        CHECK.due("loops were found", count > 0, true);
    }

    private static void fields() {
        int count = 0;
        for (Field field : OwnerDominance.class.getDeclaredFields()) {
            if (!Modifier.isStatic(field.getModifiers())) {
                count++;
            }
        }
        CHECK.due("at most forty fields (" + count + ")", count <= MOST_FIELDS, true);
    }
}

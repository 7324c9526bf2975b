import java.io.ByteArrayOutputStream;
import java.io.IOException;
import java.io.PrintStream;
import java.lang.reflect.Method;
import java.lang.reflect.Modifier;
import java.nio.file.Files;
import java.nio.file.Path;

/** README.md shows the example as it is and what it prints, and names every method. Run from the project's folder. */
public final class ReadmeTest {
    private static final Check CHECK = new Check();

    public static void main(String[] args) throws IOException {
        String readme = Files.readString(Path.of("README.md"));
        String example = Files.readString(Path.of("src/test/java/Example.java"));
        CHECK.same("the example", after(readme, "```java\n"), example);
        CHECK.same("its output", after(readme, "It prints:\n\n```\n"), output());
        for (Method method : OwnerDominance.class.getDeclaredMethods()) {
            if (Modifier.isPublic(method.getModifiers())) {
                boolean named = readme.contains("`" + method.getName() + "`") || readme.contains("`" + method.getName() + "(");
                CHECK.due(method.getName() + " is named", named, true);
            }
        }
        CHECK.end();
    }

    /** What stands between this mark and the end of the block that it opens. */
    private static String after(String readme, String mark) {
        int at = readme.indexOf(mark);
        int from = at + mark.length();
        int to = readme.indexOf("```", from);
        return at < 0 || to < 0 ? "not there" : readme.substring(from, to);
    }

    private static String output() {
        PrintStream before = System.out;
        ByteArrayOutputStream bytes = new ByteArrayOutputStream();
        System.setOut(new PrintStream(bytes, true));
        try {
            Example.main(new String[0]);
        } finally {
            System.setOut(before);
        }
        return bytes.toString().replace(System.lineSeparator(), "\n");
    }
}

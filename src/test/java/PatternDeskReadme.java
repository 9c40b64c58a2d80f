import java.io.ByteArrayOutputStream;
import java.io.IOException;
import java.io.PrintStream;
import java.nio.file.Files;
import java.nio.file.Path;

/** README.md shows the example as it is, and says what it prints. */
public final class PatternDeskReadme extends Dues {
    public static void main(String[] args) throws IOException {
        section("README.md");
        String readme = Files.readString(Path.of("README.md"));
        String example = Files.readString(Path.of("src/test/support/Example.java"));
        dueText("the example shown", block(readme, "```java\n", 0), example);
        dueText("what it prints", printed(), block(readme, "```text\n", readme.indexOf("It prints:")));
        end("the README's example holds");
    }

    private static String block(String text, String fence, int from) {
        int start = text.indexOf(fence, from) + fence.length();
        int end = text.indexOf("```\n", start);
        return from < 0 || start < fence.length() || end < 0 ? "no block" : text.substring(start, end);
    }

    private static String printed() {
        PrintStream before = System.out;
        ByteArrayOutputStream bytes = new ByteArrayOutputStream();
        System.setOut(new PrintStream(bytes, true));
        Example.main(new String[0]);
        System.setOut(before);
        return bytes.toString().replace(System.lineSeparator(), "\n");
    }
}

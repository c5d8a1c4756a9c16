import java.io.IOException;
import java.nio.file.Files;
import java.nio.file.Path;
import java.util.regex.Matcher;
import java.util.regex.Pattern;

/** The computation that README.md shows, line by line: each call with the answer behind it. */
public final class ReadmeExample {
    private static final Pattern LINE = Pattern.compile("(int s = )?x\\.(\\w+\\(.*\\)); +// ([^:]+)(: .*)?");
    private static final Check check = new Check();

    public static void main(String[] args) throws IOException {
        String[] lines = example(Files.readString(Path.of("README.md"))).split("\n");
        check.holds("the object is made as here", lines[0].startsWith("EngagementTree x = new EngagementTree(3, 8);"));
        EngagementTree x = new EngagementTree(3, 8);
        String s = "";
        for (int i = 1; i < lines.length; i++) {
            Matcher line = LINE.matcher(lines[i]);
            check.holds("a call and its answer: " + lines[i], line.matches());
            String call = line.group(2).replace("(s)", "(" + s + ")");
            check.answers(x, call + " = " + line.group(3));
            s = line.group(1) == null ? s : line.group(3);
        }
        check.end();
    }

    private static String example(String readme) {
        int begin = readme.indexOf("```java\n") + "```java\n".length();
        return readme.substring(begin, readme.indexOf("```", begin));
    }
}

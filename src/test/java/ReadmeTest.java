import java.io.IOException;
import java.nio.file.Files;
import java.nio.file.Path;
import java.util.regex.Matcher;
import java.util.regex.Pattern;

/** The examples in README.md: each call is done as it stands there, and must answer what stands behind it. */
public final class ReadmeTest {
    private static final Pattern MAKING = Pattern.compile("NodeStage stage = new NodeStage\\(\\);.*");
    private static final Pattern CALL = Pattern.compile("stage\\.(\\w+)\\((.*)\\); +// (\\S+).*");
    private static final Due due = new Due();

    public static void main(String[] args) throws IOException {
        NodeStage stage = null;
        boolean isExample = false;
        int examples = 0;
        for (String line : Files.readAllLines(Path.of("README.md"))) {
            if (line.startsWith("```")) {
                isExample = line.equals("```java");
            } else if (isExample && MAKING.matcher(line).matches()) {
                stage = new NodeStage();
                examples++;
            } else if (isExample) {
                check(stage, line);
            }
        }
        due.is("examples", examples > 0, true);
        due.end();
    }

    private static void check(NodeStage stage, String line) {
        Matcher told = CALL.matcher(line);
        if (stage == null || !told.matches()) {
            due.is(line, "no call with an answer", "one on a stage");
            return;
        }
        Call call = callOf(told.group(1), told.group(2).split(", "));
        due.is(call.told(), call.on(stage), told.group(3));
    }

    /** All numbers in README.md are whole; a call by reflection makes them doubles where it must. */
    private static Call callOf(String name, String[] texts) {
        Object[] args = new Object[texts.length];
        for (int k = 0; k < texts.length; k++) {
            boolean isTruth = texts[k].equals("true") || texts[k].equals("false");
            args[k] = isTruth ? (Object) Boolean.valueOf(texts[k]) : (Object) Integer.valueOf(texts[k]);
        }
        return new Call(name, args);
    }
}

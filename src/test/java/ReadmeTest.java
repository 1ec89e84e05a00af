import java.io.IOException;
import java.nio.file.Files;
import java.nio.file.Path;
import java.util.Arrays;
import java.util.regex.Matcher;
import java.util.regex.Pattern;

/** The lines under "Use" in README.md, in their order: each call answers what stands behind it there. */
public final class ReadmeTest extends Trial {
    private static final Pattern TEXT = Pattern.compile("tape\\(waves, \"([^\"]*)\"\\);");
    private static final Pattern CALL = Pattern.compile("waves\\.(\\w+)\\(([^)]*)\\); +// (-?\\d+|true|false)\\b.*");

    public static void main(String[] args) throws IOException {
        ReadmeTest test = new ReadmeTest();
        test.linesOf(Files.readString(Path.of("README.md")));
        test.finish();
    }

    private void linesOf(String readme) {
        sentence("README");
        int start = readme.indexOf("StreetWaves waves = new StreetWaves();");
        int stop = readme.indexOf("```", Math.max(0, start));
        if (start < 0 || stop < 0) {
            throw new IllegalStateException("README.md has no example");
        }
        for (String line : readme.substring(start, stop).split("\n")) {
            boolean silent = line.isEmpty() || line.startsWith("//") || line.startsWith("StreetWaves ");
            if (!silent) {
                take(line);
            }
        }
    }

    private void take(String line) {
        Matcher text = TEXT.matcher(line);
        Matcher call = CALL.matcher(line);
        if (text.matches()) {
            tape(text.group(1));
        } else if (call.matches()) {
            is(number(call.group(3)), call.group(1), numbers(call.group(2)));
        } else {
            throw new IllegalStateException("README.md has a line that can't be asked: " + line);
        }
    }

    private static int[] numbers(String row) {
        return row.isEmpty() ? new int[0] : Arrays.stream(row.split(", ")).mapToInt(ReadmeTest::number).toArray();
    }

    private static int number(String told) {
        switch (told) {
            case "true": return 1;
            case "false": return 0;
            default: return Integer.parseInt(told);
        }
    }
}

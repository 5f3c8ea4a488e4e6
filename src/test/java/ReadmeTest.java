import java.io.IOException;
import java.nio.file.Files;
import java.nio.file.Path;
import java.util.regex.Matcher;
import java.util.regex.Pattern;

/** That each call that README.md shows answers what stands behind it there. */
public final class ReadmeTest extends Checks {
    private static final Pattern CALL = Pattern.compile("sweep\\.(\\w+)\\(([^)]*)\\); +// ([-\\w]+).*");

    private ReadmeTest() {
    }

    public static void main(String[] args) throws IOException {
        CrossingSweep sweep = null;
        int calls = 0;
        for (String line : Files.readAllLines(Path.of("README.md"))) {
            Matcher call = CALL.matcher(line);
            if (line.equals("CrossingSweep sweep = new CrossingSweep();")) {
                sweep = new CrossingSweep();
            } else if (call.matches()) {
                check(sweep, line, call);
                calls++;
            } else {
                due(0, "a call without its answer: " + line, line.startsWith("sweep."), false);
            }
        }
        due(0, "calls were found", calls > 20, true);
        finish();
    }

    private static void check(CrossingSweep sweep, String line, Matcher call) {
        String[] told = call.group(2).isEmpty() ? new String[0] : call.group(2).split(", ");
        int[] numbers = new int[told.length];
        for (int i = 0; i < told.length; i++) {
            numbers[i] = Integer.decode(told[i]);
        }
        String answer = call.group(3);
        String want = answer.equals("true") ? "1" : answer.equals("false") || answer.equals("nothing") ? "0" : answer;
        due(0, line, Calls.outcome(() -> Calls.ask(sweep, call.group(1), numbers)), want);
    }
}

import java.nio.file.Files;
import java.nio.file.Path;
import java.util.regex.Matcher;
import java.util.regex.Pattern;

/** The calls of the example in README.md, each with the answer that stands behind it there. */
public final class ReadmeTests {
    private static final Pattern CALL = Pattern.compile("^table\\.(\\w+)\\(([-0-9, ]*)\\);\\s*// (-?\\d+): .*$");

    public static void main(String[] args) throws Exception {
        SnapRows table = new SnapRows();
        int asked = 0;
        int wrong = 0;
        for (String line : Files.readAllLines(Path.of("README.md"))) {
            if (!line.startsWith("table.")) {
                continue;
            }
            Matcher m = CALL.matcher(line);
            if (!m.matches()) {
                System.out.println("a call without its answer: " + line);
                wrong++;
                continue;
            }
            int got = Calls.ask(table, Calls.of(m.group(1), m.group(2)));
            asked++;
            if (got != Integer.parseInt(m.group(3))) {
                System.out.println("answered " + got + ": " + line);
                wrong++;
            }
        }
        if (asked == 0) {
            System.out.println("README.md has no example");
            wrong++;
        }
        System.out.println(asked + " calls of README.md, " + wrong + " not as due");
        if (wrong != 0) {
            System.exit(1);
        }
    }
}

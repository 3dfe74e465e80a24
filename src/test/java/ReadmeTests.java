import java.io.IOException;
import java.nio.file.Files;
import java.nio.file.Path;
import java.util.regex.Matcher;
import java.util.regex.Pattern;

/** Asks the calls of README.md's examples, in their order, on one new object; looks at its table of findings. */
public final class ReadmeTests {
    private static final Path README = Path.of("README.md");
    private static final Pattern CALL = Pattern.compile("x\\.(\\w+)\\(([^)]*)\\);\\s*// (-?\\d+)");
    private static final String MAKING = "ThreeTouched x = new ThreeTouched();";

    public static void main(String[] args) throws IOException {
        String text = Files.readString(README);
        Run run = new Run();
        boolean inExample = false;
        for (String line : text.split("\n")) {
            if (line.startsWith("```")) {
                inExample = line.equals("```java");
            } else if (inExample && !line.equals(MAKING)) {
                ask(run, line);
            }
        }
        if (Run.checks == 0) {
            Run.FAULTS.add("no examples");
        }
        for (Finding finding : Finding.values()) {
            String row = "| " + finding.ordinal() + " | " + finding + " | " + finding.toldBy(int.class) + " | ";
            Run.checks++;
            if (!text.contains(row)) {
                Run.FAULTS.add("no row " + row);
            }
        }
        for (String fault : Run.FAULTS) {
            System.out.println("README.md: " + fault);
        }
        System.out.println(Run.checks + " checks, " + Run.FAULTS.size() + " wrong");
        if (!Run.FAULTS.isEmpty()) {
            System.exit(1);
        }
    }

    private static void ask(Run run, String line) {
        Matcher call = CALL.matcher(line);
        if (!call.matches()) {
            Run.FAULTS.add("no call with its answer: " + line);
            return;
        }
        String[] parts = call.group(2).isEmpty() ? new String[0] : call.group(2).split(", ");
        long[] arguments = new long[parts.length];
        for (int n = 0; n < parts.length; n++) {
            arguments[n] = Long.parseLong(parts[n]);
        }
        run.due(Long.parseLong(call.group(3)), call.group(1), arguments);
    }
}

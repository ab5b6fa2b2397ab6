import java.io.IOException;
import java.nio.file.Files;
import java.nio.file.Path;
import java.util.List;

/** The example of README.md: that it answers what stands beside it, and that it stands there. */
public final class ReadmeTest {
    private static final int NUMBERS = 3;

    private final List<String> lines;
    private final FieldFactors f = new FieldFactors();

    private ReadmeTest(List<String> lines) {
        this.lines = lines;
    }

    public static void main(String[] args) throws IOException {
        ReadmeTest test = new ReadmeTest(Files.readAllLines(Path.of("README.md")));
        test.answers();
        test.registers();
        test.namesEveryTest();
        Checks.end();
    }

    private void answers() {
        example("f.field(3);", "2,", f.field(NUMBERS) + ",");
        f.set(0, 0, -1);
        f.set(0, 4, 1);
        example("f.zeros(0);", "2:", f.zeros(0) + ":");
        example("f.factor(0);", "3 factors:", f.factor(0) + " factors:");
        example("f.piece(1, 2);", "1:", f.piece(1, 2) + ":");
        example("f.irreducible(1);", "true", "" + f.irreducible(1));
        example("f.order(1);", "4:", f.order(1) + ":");
        example("f.linear(2, 0);", "2:", f.linear(2, 0) + ":");
        example("f.join(3, 3, 0, 2);", "2:", f.join(3, 3, 0, 2) + ":");
        example("f.inverse(4, 2, 3);", "0:", f.inverse(4, 2, 3) + ":");
    }

    private void registers() {
        Checks.dueRow("x^4 + 2", f, 0, 2, 0, 0, 0, 1);
        Checks.dueRow("x^2 + 1, the factor", f, 1, 1, 0, 1);
        Checks.dueRow("x^2 + 2", f, 2, 2, 0, 1);
        Checks.dueRow("x^2 + 1, the quotient", f, 3, 1, 0, 1);
        Checks.dueRow("1", f, 4, 1);
    }

    /** A test that is added without a row of its own in README.md would be found by nobody. */
    private void namesEveryTest() throws IOException {
        try (var files = Files.list(Path.of("src/test/java"))) {
            for (Path file : files.sorted().toList()) {
                String name = file.getFileName().toString().replace(".java", "");
                boolean named = lines.stream().anyMatch(line -> line.startsWith("| `" + name + "` |"));
                Checks.due("README.md names " + name, named, true);
            }
        }
    }

    private void example(String call, String written, String got) {
        Checks.due(call, got, written);
        boolean found = lines.stream().anyMatch(line -> line.startsWith(call)
                && line.substring(call.length()).strip().startsWith("// " + written));
        Checks.due("README.md has " + call + " with " + written, found, true);
    }
}

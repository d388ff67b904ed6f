import java.io.IOException;
import java.nio.file.Files;
import java.nio.file.Path;
import java.util.ArrayDeque;
import java.util.ArrayList;
import java.util.Deque;
import java.util.List;

/** The examples of README.md: each call stands there with the answer that it gives, and none stands there without being called. */
public final class ReadmeTest {
    private static final Deque<String> EXAMPLES = new ArrayDeque<>();

    public static void main(String[] args) throws IOException {
        List<String> lines = Files.readAllLines(Path.of("README.md"));
        EXAMPLES.addAll(examplesIn(lines));
        Checks.due("the first line", EXAMPLES.isEmpty() ? "" : EXAMPLES.removeFirst(), "QuarryBlends quarry = new QuarryBlends();");
        calls(new QuarryBlends());
        Checks.due("examples without a test", EXAMPLES.toString(), "[]");
        everyTestIsTold(String.join("\n", lines));
        Checks.end();
    }

    private static List<String> examplesIn(List<String> lines) {
        List<String> examples = new ArrayList<>();
        boolean inside = false;
        for (String line : lines) {
            if (line.startsWith("```")) {
                inside = line.equals("```java");
            } else if (inside) {
                examples.add(line);
            }
        }
        return examples;
    }

    /** The next example is this call, and this answer stands behind it. */
    private static void says(String call, int answer) {
        String line = EXAMPLES.isEmpty() ? "" : EXAMPLES.removeFirst();
        String told = line.replaceFirst(";\\s+// (-?[0-9]+): .*", " is $1");
        Checks.due("an example of README.md", told, "quarry." + call + " is " + answer);
    }

    private static void calls(QuarryBlends quarry) {
        says("face(200, 2, 3)", quarry.face(200, 2, 3));
        says("contract(60, 20, 60, 5, 30, 10)", quarry.contract(60, 20, 60, 5, 30, 10));
        says("ofContract(0, 6)", quarry.ofContract(0, 6));
        says("then(1, 0)", quarry.then(1, 0));
        says("leastTrucks(1, 1)", quarry.leastTrucks(1, 1));
        says("bestGap(1, 0)", quarry.bestGap(1, 0));
        says("bestGap(1, 1)", quarry.bestGap(1, 1));
        says("set(QuarryBlends.GAP, 2)", quarry.set(QuarryBlends.GAP, 2));
        says("pass(1)", quarry.pass(1));
        says("count(9)", quarry.count(9));
        says("bin(0)", quarry.bin(0));
        says("undo()", quarry.undo());
        says("count(9)", quarry.count(9));
        says("pass(31)", quarry.pass(31));
        says("truck(0, 2)", quarry.truck(0, 2));
        says("put('g' << 16 | '2' << 8 | ';')", quarry.put('g' << 16 | '2' << 8 | ';'));
        says("fault()", quarry.fault());
        says("put('d' << 8 | '7')", quarry.put('d' << 8 | '7'));
        says("fault()", quarry.fault());
        says("carryOut()", quarry.carryOut());
        says("save(0)", quarry.save(0));
        says("undo()", quarry.undo());
        says("restore(0)", quarry.restore(0));
        says("count(0)", quarry.count(0));
    }

    private static void everyTestIsTold(String readme) throws IOException {
        for (String place : new String[] {"src/test/java", "src/test/support"}) {
            try (var files = Files.list(Path.of(place))) {
                for (Path file : files.toList()) {
                    String name = file.getFileName().toString().replace(".java", "");
                    Checks.due("README.md tells of " + name, readme.contains(name) ? 1 : 0, 1);
                }
            }
        }
    }
}

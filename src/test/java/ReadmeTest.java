import java.io.IOException;
import java.nio.file.Files;
import java.nio.file.Path;
import java.util.List;

/** The run of calls that README.md shows: each answers what is shown behind it. */
public final class ReadmeTest {
    private final Check check = new Check();
    private final List<String> lines;
    private int next;

    private ReadmeTest(List<String> lines) {
        this.lines = lines;
    }

    public static void main(String[] args) throws IOException {
        String path = System.getProperty("readme", "README.md");
        List<String> lines = Files.readAllLines(Path.of(path)).stream()
                .filter(line -> line.startsWith("x."))
                .toList();
        ReadmeTest test = new ReadmeTest(lines);
        LineDebugger x = new LineDebugger();
        test.aProgram(x);
        test.aBreakpoint(x);
        test.frames(x);
        test.anExpression(x);
        test.check.due("all calls of README.md", test.next, lines.size());
        test.check.end();
    }

    /** The calls come in README's order, so that none of its lines is passed over. */
    private void shown(String code, String answer, Check.Call call) {
        String line = next < lines.size() ? lines.get(next) : "";
        next++;
        check.due("README.md shows " + code, line.matches(
                "\\Qx." + code + ";\\E +// \\Q" + answer + "\\E: .*"), true);
        check.due(code, Check.outcomeOf(call), answer.equals("true") ? "1" : answer);
    }

    private void loaded(String code, boolean answer) {
        shown(code, "true", () -> answer ? 1 : 0);
    }

    private void aProgram(LineDebugger x) {
        loaded("load(0, 40 << 16 | 6 << 4 | 1)", x.load(0, 40 << 16 | 6 << 4 | 1));
        loaded("load(1, 4 << 16 | 11)", x.load(1, 4 << 16 | 11));
        loaded("load(4, -2 << 16 | 6 << 7 | 6 << 4 | 2)",
                x.load(4, -2 << 16 | 6 << 7 | 6 << 4 | 2));
        loaded("load(5, 1 << 16 | 6 << 7 | 7 << 4 | 8)",
                x.load(5, 1 << 16 | 6 << 7 | 7 << 4 | 8));
        loaded("load(6, 7 << 16 | 1)", x.load(6, 7 << 16 | 1));
    }

    private void aBreakpoint(LineDebugger x) {
        shown("request(4, 6, 0)", "0", () -> x.request(4, 6, 0));
        shown("fault(1)", "1", () -> x.fault(1));
        shown("request(7, 0, 200)", "2", () -> x.request(7, 0, 200));
        shown("count(1)", "3", () -> x.count(1));
        shown("count(5)", "4", () -> x.count(5));
        shown("request(2, 6, 0)", "458753", () -> x.request(2, 6, 0));
        shown("request(0, 8, 0)", Check.IAE, () -> x.request(0, 8, 0));
    }

    private void frames(LineDebugger x) {
        shown("rule(6, 9, 2, 1)", "1", () -> x.rule(6, 9, 2, 1));
        shown("unwind()", "2", () -> x.unwind());
        shown("frame(1, 8)", "2", () -> x.frame(1, 8));
        shown("frame(1, 6)", "40", () -> x.frame(1, 6));
    }

    private void anExpression(LineDebugger x) {
        shown("operation(1, 6)", "1", () -> x.operation(1, 6));
        shown("operation(0, 1)", "2", () -> x.operation(0, 1));
        shown("operation(3, 0)", "3", () -> x.operation(3, 0));
        shown("operation(2, 0)", "4", () -> x.operation(2, 0));
        shown("evaluate(0)", "2", () -> x.evaluate(0));
        shown("evaluate(1)", "0", () -> x.evaluate(1));
    }
}

import java.io.IOException;
import java.nio.file.Files;
import java.nio.file.Path;
import java.util.ArrayList;
import java.util.List;

/** The example of README.md: each of its calls has the answer that its comment begins with. */
public final class ReadmeTest {
    private static final String CALL = "trace.";

    public static void main(String[] args) throws IOException {
        List<String> seen = new ArrayList<>();
        PieceTrace trace = new PieceTrace();
        for (String line : Files.readAllLines(Path.of("README.md"))) {
            if (line.startsWith(CALL)) {
                example(trace, line);
                seen.add(line.substring(CALL.length(), line.indexOf('(')));
            }
        }
        for (String name : List.of("melt", "cut", "weld", "roll", "slit", "hold", "scrap", "back", "at", "origin",
            "defect", "has", "recall", "told")) {
            Check.due("the example shows " + name, seen.contains(name), true);
        }
        Check.end();
    }

    private static void example(PieceTrace trace, String line) {
        String name = line.substring(CALL.length(), line.indexOf('('));
        String[] given = line.substring(line.indexOf('(') + 1, line.indexOf(')')).split(", ");
        String told = line.substring(line.indexOf("// ") + 3);
        if (name.equals("hold")) {
            trace.hold(Integer.parseInt(given[0]), Boolean.parseBoolean(given[1]));
            return;
        }
        int[] numbers = new int[given.length];
        for (int i = 0; i < given.length; i++) {
            numbers[i] = Integer.parseInt(given[i]);
        }
        Check.due(line, answer(trace, name, numbers), Long.parseLong(told.substring(0, told.indexOf(':'))));
    }

    private static long answer(PieceTrace trace, String name, int[] given) {
        return switch (name) {
            case "melt" -> trace.melt(given[0], given[1]);
            case "cut" -> trace.cut(given[0], given[1]);
            case "weld" -> trace.weld(given[0], given[1]);
            case "roll" -> trace.roll(given[0], given[1], given[2]);
            case "slit" -> trace.slit(given[0], given[1]);
            case "scrap" -> trace.scrap(given[0]);
            case "back" -> trace.back(given[0], given[1]);
            case "at" -> trace.at(given[0], given[1]);
            case "origin" -> trace.origin(given[0], given[1], given[2]);
            case "defect" -> trace.defect(given[0], given[1]);
            case "has" -> trace.has(given[0], given[1], given[2]);
            case "recall" -> trace.recall(given[0], given[1]);
            case "told" -> trace.told(given[0]);
            default -> throw new IllegalArgumentException(name);
        };
    }
}

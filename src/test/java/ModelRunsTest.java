import java.util.Map;
import java.util.Random;
import java.util.TreeMap;
import java.util.function.ToLongFunction;

/**
 * Many runs of up to 512 calls, each call made of the class and of the model beside it. The seeds
 * are fixed: each test makes the same calls.
 */
public final class ModelRunsTest {
    private static final int RUNS = 3000;
    private static final int CALLS = 512;
    private static final int[] STRANGE = {Integer.MIN_VALUE, Integer.MAX_VALUE, -1, 0, 40, 41, 1_000_001};

    private static final Map<String, Integer> outcomes = new TreeMap<>();

    private final Random random;
    private final PieceTrace x = new PieceTrace();
    private final Model model = new Model();

    private ModelRunsTest(long seed) {
        random = new Random(seed);
    }

    public static void main(String[] args) {
        for (int seed = 0; seed < RUNS; seed++) {
            new ModelRunsTest(seed).run(seed);
        }
        enoughSeen();
        Check.end();
    }

    private void run(int seed) {
        // Some runs fill up fast, others stay small and look a lot.
        int making = 5 + random.nextInt(40);
        for (int i = 0; i < CALLS; i++) {
            String at = "run " + seed + ", call " + i + ": ";
            if (random.nextInt(100) < making) {
                make(at);
            } else {
                look(at);
            }
        }
    }

    private void make(String at) {
        int p = piece();
        switch (random.nextInt(10)) {
            case 0 -> {
                int weight = upTo(1_000_000);
                int length = upTo(1_000_000);
                same(at, "melt", model.melt(weight, length), y -> y.melt(weight, length));
            }
            case 1, 2 -> {
                int place = place(p);
                same(at, "cut", model.cut(p, place), y -> y.cut(p, place));
            }
            case 3 -> {
                int q = piece();
                same(at, "weld", model.weld(p, q), y -> y.weld(p, q));
            }
            case 4, 5 -> {
                int a = random.nextInt(4) == 0 ? 20 : upTo(20);
                int b = random.nextInt(4) == 0 ? 1 : upTo(20);
                same(at, "roll", model.roll(p, a, b), y -> y.roll(p, a, b));
            }
            case 6 -> {
                int n = strange(2 + random.nextInt(3));
                same(at, "slit", model.slit(p, n), y -> y.slit(p, n));
            }
            case 7 -> {
                boolean on = random.nextInt(3) == 0;
                same(at, "hold", model.hold(p, on), y -> {
                    y.hold(p, on);
                    return 0;
                });
            }
            case 8 -> {
                if (random.nextInt(2) == 0) {
                    same(at, "scrap", model.scrap(p), y -> y.scrap(p));
                } else {
                    int percent = upTo(100);
                    int length = upTo(1_000_000);
                    same(at, "back", model.back(percent, length), y -> y.back(percent, length));
                }
            }
            default -> {
                int place = place(p);
                same(at, "defect", model.defect(p, place), y -> y.defect(p, place));
            }
        }
    }

    private void look(String at) {
        int p = piece();
        int d = strange(random.nextInt(model.defectCount() + 1));
        switch (random.nextInt(6)) {
            case 0 -> {
                int what = strange(random.nextInt(7));
                same(at, "at", model.at(p, what), y -> y.at(p, what));
            }
            case 1, 2 -> {
                int place = place(p);
                int part = strange(random.nextInt(3));
                same(at, "origin", model.origin(p, place, part), y -> y.origin(p, place, part));
            }
            case 3 -> {
                int part = strange(random.nextInt(2));
                same(at, "has", model.has(d, p, part), y -> y.has(d, p, part));
            }
            case 4 -> {
                int k = strange(random.nextInt(4));
                same(at, "recall", model.recall(d, k), y -> y.recall(d, k));
            }
            default -> {
                int what = strange(random.nextInt(3));
                same(at, "told", model.told(what), y -> y.told(what));
            }
        }
    }

    private void same(String at, String name, String want, ToLongFunction<PieceTrace> call) {
        Check.due(at + name, Check.answer(x, call), want);
        String kind = want.startsWith("throws.") ? want : want.equals("-1") ? "-1" : "a number";
        outcomes.merge(name + " " + kind, 1, Integer::sum);
    }

    private int piece() {
        int count = model.pieceCount();
        // The newest ones are the live ones more often.
        int back = random.nextBoolean() ? random.nextInt(6) : random.nextInt(count + 1);
        return strange(Math.max(0, count - back));
    }

    private int place(int piece) {
        int length = (int) model.lengthOf(piece);
        int place = switch (random.nextInt(8)) {
            case 0 -> length - 1;
            case 1 -> length;
            case 2 -> 0;
            case 3 -> 1;
            default -> random.nextInt(length);
        };
        return strange(place);
    }

    private int upTo(int most) {
        int number = switch (random.nextInt(6)) {
            case 0 -> most;
            case 1 -> 1 + random.nextInt(Math.min(most, 30));
            default -> 1 + random.nextInt(most);
        };
        return strange(number);
    }

    private int strange(int usual) {
        return random.nextInt(60) == 0 ? STRANGE[random.nextInt(STRANGE.length)] : usual;
    }

    /** Runs that never come to an answer would show nothing of it. */
    private static void enoughSeen() {
        String[] due = {
            "melt a number", "cut a number", "weld a number", "roll a number", "slit a number", "hold a number",
            "scrap a number", "back a number", "at a number", "at -1", "origin a number", "defect a number",
            "has a number", "has -1", "recall a number", "recall -1", "told a number",
            "melt " + Model.RANGE, "melt " + Model.MEANING,
            "cut " + Model.INDEX, "cut " + Model.TURN, "cut " + Model.RANGE, "cut " + Model.MEANING,
            "weld " + Model.INDEX, "weld " + Model.TURN, "weld " + Model.MEANING,
            "roll " + Model.INDEX, "roll " + Model.TURN, "roll " + Model.RANGE, "roll " + Model.MEANING,
            "slit " + Model.INDEX, "slit " + Model.TURN, "slit " + Model.RANGE, "slit " + Model.MEANING,
            "hold " + Model.INDEX, "hold " + Model.TURN, "scrap " + Model.INDEX, "scrap " + Model.TURN,
            "back " + Model.RANGE, "back " + Model.MEANING, "at " + Model.INDEX,
            "origin " + Model.INDEX, "origin " + Model.RANGE,
            "defect " + Model.INDEX, "defect " + Model.RANGE, "defect " + Model.MEANING,
            "has " + Model.INDEX, "recall " + Model.INDEX, "told " + Model.INDEX,
        };
        for (String outcome : due) {
            Check.due("seen often: " + outcome, outcomes.getOrDefault(outcome, 0) >= 100, true);
        }
    }
}

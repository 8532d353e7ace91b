import java.util.function.Consumer;
import java.util.function.Supplier;
import java.util.function.ToLongFunction;

/** What all tests of the project share: answers compared, refusals looked at, the end of a test. */
final class Check {
    static final Class<?> INDEX = IndexOutOfBoundsException.class;
    static final Class<?> TURN = IllegalStateException.class;
    static final Class<?> RANGE = IllegalArgumentException.class;
    static final Class<?> MEANING = UnsupportedOperationException.class;

    /** Of mixed(). */
    static final int[] NOT_IN_MIXED = {-1, 5, 40, Integer.MIN_VALUE, Integer.MAX_VALUE};
    static final int[] NOT_FREE_IN_MIXED = {0, 2, 3};

    private static int looked = 0;
    private static int wrong = 0;

    private Check() {}

    static void due(String what, Object got, Object want) {
        looked++;
        if (!got.equals(want)) {
            wrong++;
            System.out.println(what + " answered " + got + ", due is " + want);
        }
    }

    static void due(String what, long got, long want) {
        due(what, (Object) got, (Object) want);
    }

    /** The answer of a call as a text, or throws. and the exact class of what it threw. */
    static String answer(PieceTrace x, ToLongFunction<PieceTrace> call) {
        try {
            return Long.toString(call.applyAsLong(x));
        } catch (RuntimeException e) {
            return "throws." + e.getClass().getSimpleName();
        }
    }

    /**
     * A call on an object fresh from its maker throws just this class, and leaves the object as
     * one that never had the call. Two objects, each looked at once, stay below 512 calls.
     */
    static void refused(String what, Class<?> with, Supplier<PieceTrace> maker, Consumer<PieceTrace> call) {
        PieceTrace asked = maker.get();
        String got = answer(asked, x -> {
            call.accept(x);
            return 0;
        });
        due(what, got, "throws." + with.getSimpleName());
        due(what + ": state after it", state(asked), state(maker.get()));
    }

    /** All that an object tells, as a text. */
    static String state(PieceTrace x) {
        StringBuilder all = new StringBuilder();
        int pieces = 0;
        while (!answer(x, seenAt(pieces, 0)).startsWith("throws.")) {
            all.append("\npiece ").append(pieces);
            for (int what = 0; what <= 6; what++) {
                all.append(' ').append(x.at(pieces, what));
            }
            pieces++;
        }
        all.append("\ntold");
        for (int what = 0; what <= 2; what++) {
            all.append(' ').append(x.told(what));
        }
        for (int d = 0; !answer(x, recalled(d)).startsWith("throws."); d++) {
            all.append("\ndefect ").append(d);
            for (int piece = 0; piece < pieces; piece++) {
                all.append(' ').append(x.has(d, piece, 0)).append('/').append(x.has(d, piece, 1));
            }
        }
        return all.toString();
    }

    private static ToLongFunction<PieceTrace> seenAt(int piece, int what) {
        return x -> x.at(piece, what);
    }

    private static ToLongFunction<PieceTrace> recalled(int defect) {
        return x -> x.recall(defect, 0);
    }

    /** One melt of a kilogram and a metre after the other, up to the number of pieces. */
    static PieceTrace filledTo(int pieces) {
        PieceTrace x = new PieceTrace();
        for (int i = 0; i < pieces; i++) {
            x.melt(1000, 1000);
        }
        return x;
    }

    /** What is held, used, scrap and live, for calls that look at that. */
    static PieceTrace mixed() {
        PieceTrace x = new PieceTrace();
        x.melt(1000, 300); // 0: used by the cut
        x.cut(0, 100); // 1: live, 2: scrap
        x.scrap(2);
        x.melt(500, 40); // 3: held
        x.hold(3, true);
        x.melt(70, 7); // 4: live
        x.defect(1, 5);
        return x;
    }

    /** All that at tells of a piece. */
    static void pieceIs(PieceTrace x, int piece, int... due) {
        for (int what = 0; what <= 6; what++) {
            due("at(" + piece + ", " + what + ")", x.at(piece, what), due[what]);
        }
    }

    static void weightsAndLengths(String what, PieceTrace x, int piece, int weight, int length) {
        due(what + ": weight", x.at(piece, 0), weight);
        due(what + ": length", x.at(piece, 1), length);
    }

    static void originIs(PieceTrace x, int piece, int place, long melt, long upper, long lower) {
        String what = "origin of place " + place + " of piece " + piece;
        due(what + ": melt", x.origin(piece, place, 0), melt);
        due(what + ": upper", x.origin(piece, place, 1), upper);
        due(what + ": lower", x.origin(piece, place, 2), lower);
    }

    static void hasAt(PieceTrace x, int defect, int piece, long upper, long lower) {
        String what = "defect " + defect + " in piece " + piece;
        due(what + ": upper", x.has(defect, piece, 0), upper);
        due(what + ": lower", x.has(defect, piece, 1), lower);
    }

    static void hasNot(PieceTrace x, int defect, int piece) {
        hasAt(x, defect, piece, -1, -1);
    }

    /** Ends the test: with exit code 1 if an answer was wrong, or none was looked at. */
    static void end() {
        System.out.println(looked + " looked at, " + wrong + " wrong");
        if (wrong != 0 || looked == 0) {
            System.exit(1);
        }
    }
}

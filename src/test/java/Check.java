import java.util.function.Consumer;
import java.util.function.Supplier;
import java.util.function.ToLongFunction;

/** What all tests of the project share: answers compared, refusals looked at, the end of a test. */
final class Check {
    static final Class<?> INDEX = IndexOutOfBoundsException.class;
    static final Class<?> TURN = IllegalStateException.class;
    static final Class<?> RANGE = IllegalArgumentException.class;
    static final Class<?> MEANING = UnsupportedOperationException.class;

    /** Of mixed(). */
    static final int[] NOT_IN_MIXED = {-1, 5, 40, Integer.MIN_VALUE, Integer.MAX_VALUE};
    /** Of mixed() and fullMixed(). */
    static final int USED = 0;
    static final int SCRAP = 2;
    static final int HELD = 3;
    static final int FREE = 4;
    static final int FREE_LENGTH = 7;
    static final int[] NOT_FREE = {USED, SCRAP, HELD};
    /** Of an object that is full. */
    static final int[] NOT_IN_FULL = {-1, 40, 41, Integer.MIN_VALUE, Integer.MAX_VALUE};

    private static int looked = 0;
    private static int wrong = 0;

    private Check() {}

    static void due(String what, Object got, Object want) {
        looked++;
        if (!got.equals(want)) {
            wrong++;
            System.out.println(what + " answered " + got + ", due is " + want);
        }
    }

    static void due(String what, long got, long want) {
        due(what, (Object) got, (Object) want);
    }

    /** The answer of a call as a text, or throws. and the exact class of what it threw. */
    static String answer(PieceTrace x, ToLongFunction<PieceTrace> call) {
        try {
            return Long.toString(call.applyAsLong(x));
        } catch (RuntimeException e) {
            return "throws." + e.getClass().getSimpleName();
        }
    }

    /**
     * A call on an object fresh from its maker throws just this class, and leaves the object as
     * one that never had the call.
     */
    static void refused(String what, Class<?> with, Supplier<PieceTrace> maker, Consumer<PieceTrace> call) {
        due(what, asked(maker.get(), call), "throws." + with.getSimpleName());
        Supplier<PieceTrace> askedMaker = () -> {
            PieceTrace x = maker.get();
            asked(x, call);
            return x;
        };
        due(what + ": state after it", state(askedMaker), state(maker));
    }

    private static String asked(PieceTrace x, Consumer<PieceTrace> call) {
        return answer(x, y -> {
            call.accept(y);
            return 0;
        });
    }

    /** All that an object tells, as a text. Each look is at an object of its own, to stay below 512 calls. */
    static String state(Supplier<PieceTrace> maker) {
        StringBuilder all = new StringBuilder();
        int pieces = lookAtPieces(maker.get(), all);
        lookAtOrigins(maker.get(), pieces, all);
        int defects = 0;
        while (lookAtDefect(maker.get(), defects, pieces, all)) {
            defects++;
        }
        return all.toString();
    }

    private static int lookAtPieces(PieceTrace x, StringBuilder all) {
        all.append("told");
        for (int what = 0; what <= 2; what++) {
            all.append(' ').append(x.told(what));
        }
        int pieces = 0;
        while (!answer(x, seenAt(pieces, 0)).startsWith("throws.")) {
            all.append("\npiece ").append(pieces);
            for (int what = 0; what <= 6; what++) {
                all.append(' ').append(x.at(pieces, what));
            }
            pieces++;
        }
        return pieces;
    }

    /** The first and the last place of each piece. */
    private static void lookAtOrigins(PieceTrace x, int pieces, StringBuilder all) {
        for (int piece = 0; piece < pieces; piece++) {
            all.append("\norigins of ").append(piece);
            int last = x.at(piece, 1) - 1;
            for (int part = 0; part <= 2; part++) {
                all.append(' ').append(x.origin(piece, 0, part)).append(' ').append(x.origin(piece, last, part));
            }
        }
    }

    private static boolean lookAtDefect(PieceTrace x, int defect, int pieces, StringBuilder all) {
        String first = answer(x, y -> y.recall(defect, 0));
        if (first.startsWith("throws.")) {
            return false;
        }
        all.append("\ndefect ").append(defect).append(": ").append(first);
        for (int piece = 0; piece < pieces; piece++) {
            all.append(' ').append(x.has(defect, piece, 0)).append('/').append(x.has(defect, piece, 1));
        }
        return true;
    }

    private static ToLongFunction<PieceTrace> seenAt(int piece, int what) {
        return x -> x.at(piece, what);
    }

    /** The numbers next to a range on both sides, and the farthest ones. */
    static int[] outside(int least, int most) {
        return new int[] {least - 1, most + 1, Integer.MIN_VALUE, Integer.MAX_VALUE};
    }

    /** One melt of a kilogram and a metre after the other, up to the number of pieces. */
    static PieceTrace filledTo(int pieces) {
        PieceTrace x = new PieceTrace();
        for (int i = 0; i < pieces; i++) {
            x.melt(1000, 1000);
        }
        return x;
    }

    /** What is held, used, scrap and live, for calls that look at that. */
    static PieceTrace mixed() {
        PieceTrace x = new PieceTrace();
        x.melt(1000, 300); // 0: used by the cut
        x.cut(0, 100); // 1: live, 2: scrap
        x.scrap(2);
        x.melt(500, 40); // 3: held
        x.hold(3, true);
        x.melt(70, 7); // 4: live
        x.defect(1, 5);
        return x;
    }

    /** The same, and then melts up to the 40th piece. */
    static PieceTrace fullMixed() {
        PieceTrace x = mixed();
        for (int i = 5; i < 40; i++) {
            x.melt(1000, 1000);
        }
        return x;
    }

    /** One piece of this weight and length. */
    static PieceTrace oneMelt(int weight, int length) {
        PieceTrace x = new PieceTrace();
        x.melt(weight, length);
        return x;
    }

    /** All that at tells of a piece. */
    static void pieceIs(PieceTrace x, int piece, int... due) {
        for (int what = 0; what <= 6; what++) {
            due("at(" + piece + ", " + what + ")", x.at(piece, what), due[what]);
        }
    }

    static void weightsAndLengths(String what, PieceTrace x, int piece, int weight, int length) {
        due(what + ": weight", x.at(piece, 0), weight);
        due(what + ": length", x.at(piece, 1), length);
    }

    static void originIs(PieceTrace x, int piece, int place, long melt, long upper, long lower) {
        String what = "origin of place " + place + " of piece " + piece;
        due(what + ": melt", x.origin(piece, place, 0), melt);
        due(what + ": upper", x.origin(piece, place, 1), upper);
        due(what + ": lower", x.origin(piece, place, 2), lower);
    }

    static void hasAt(PieceTrace x, int defect, int piece, long upper, long lower) {
        String what = "defect " + defect + " in piece " + piece;
        due(what + ": upper", x.has(defect, piece, 0), upper);
        due(what + ": lower", x.has(defect, piece, 1), lower);
    }

    static void hasNot(PieceTrace x, int defect, int piece) {
        hasAt(x, defect, piece, -1, -1);
    }

    /** Ends the test: with exit code 1 if an answer was wrong, or none was looked at. */
    static void end() {
        System.out.println(looked + " looked at, " + wrong + " wrong");
        if (wrong != 0 || looked == 0) {
            System.exit(1);
        }
    }
}

import java.util.function.Consumer;
import java.util.function.Supplier;

/** What the section "Terms" says of all pieces, and "What it is" of the calls. */
public final class TermsTest {
    public static void main(String[] args) {
        usedOnesAreUsedOnce();
        noLengthIsBelowOne();
        fortyEver();
        refusedCallsTakeNoNumbers();
        weightsSum();
        theLastCalls();
        Check.end();
    }

    /** "made of live pieces that are not HELD, which are used then", whatever they were used for. */
    private static void usedOnesAreUsedOnce() {
        usedUp("by a cut", 1, x -> x.cut(1, 1));
        usedUp("by a weld, first", 1, x -> x.weld(1, 0));
        usedUp("by a weld, second", 1, x -> x.weld(0, 1));
        usedUp("by a roll", 1, x -> x.roll(1, 1, 1));
        usedUp("by a slit", 1, x -> x.slit(1, 2));
        usedUp("by scrap", 2, x -> x.scrap(1));
    }

    private static void usedUp(String how, int state, Consumer<PieceTrace> use) {
        Supplier<PieceTrace> maker = () -> {
            PieceTrace x = Check.filledTo(3);
            use.accept(x);
            return x;
        };
        Check.due(how + ": its state", maker.get().at(1, 2), state);
        Check.due(how + ": another's state", maker.get().at(2, 2), 0);
        Check.refused(how + ": cut", Check.TURN, maker, x -> x.cut(1, 1));
        Check.refused(how + ": weld", Check.TURN, maker, x -> x.weld(1, 2));
        Check.refused(how + ": weld", Check.TURN, maker, x -> x.weld(2, 1));
        Check.refused(how + ": roll", Check.TURN, maker, x -> x.roll(1, 1, 1));
        Check.refused(how + ": slit", Check.TURN, maker, x -> x.slit(1, 2));
        Check.refused(how + ": hold", Check.TURN, maker, x -> x.hold(1, true));
        Check.refused(how + ": let go", Check.TURN, maker, x -> x.hold(1, false));
        Check.refused(how + ": scrap", Check.TURN, maker, x -> x.scrap(1));
    }

    /** "a LENGTH (millimetres, 1 or more)": all that can be made of a millimetre and of two. */
    private static void noLengthIsBelowOne() {
        PieceTrace x = Check.oneMelt(3, 2);
        x.cut(0, 1); // 1, 2
        x.slit(1, 2); // 3, 4
        x.weld(2, 3); // 5
        x.roll(5, 1, 2); // 6
        int[] due = {2, 1, 1, 1, 1, 2, 1};
        for (int piece = 0; piece < due.length; piece++) {
            Check.due("length of " + piece, x.at(piece, 1), due[piece]);
        }
    }

    /** "at most 40 ever": neither use nor scrap gives room again, for any call that makes a piece. */
    private static void fortyEver() {
        Check.refused("melt", Check.MEANING, TermsTest::fullOfUsedAndScrap, x -> x.melt(1, 1));
        Check.refused("cut", Check.MEANING, TermsTest::fullOfUsedAndScrap, x -> x.cut(38, 1));
        Check.refused("weld", Check.MEANING, TermsTest::fullOfUsedAndScrap, x -> x.weld(38, 37));
        Check.refused("roll", Check.MEANING, TermsTest::fullOfUsedAndScrap, x -> x.roll(38, 1, 1));
        Check.refused("slit", Check.MEANING, TermsTest::fullOfUsedAndScrap, x -> x.slit(38, 2));
        Check.refused("back", Check.MEANING, TermsTest::fullOfUsedAndScrap, x -> x.back(100, 1));
    }

    /** 0 and every third one from 1 to 34 are used, 3 and 39 are scrap, the others are live. */
    private static PieceTrace fullOfUsedAndScrap() {
        PieceTrace x = Check.filledTo(1);
        int last = 0;
        for (int i = 0; i < 13; i++) {
            last = x.slit(last, 3);
        }
        x.scrap(39);
        x.scrap(3);
        return x;
    }

    /** "What is refused changes nothing": the next numbers are the ones they would have been. */
    private static void refusedCallsTakeNoNumbers() {
        PieceTrace x = Check.mixed();
        Check.answer(x, y -> y.melt(0, 1));
        Check.answer(x, y -> y.cut(Check.FREE, 7));
        Check.answer(x, y -> y.weld(Check.FREE, Check.HELD));
        Check.answer(x, y -> y.roll(Check.FREE, 1, 20));
        Check.answer(x, y -> y.slit(Check.FREE, 5));
        Check.answer(x, y -> y.scrap(Check.HELD));
        Check.answer(x, y -> y.back(0, 1));
        Check.answer(x, y -> y.defect(Check.FREE, 7));
        Check.due("the next piece", x.cut(Check.FREE, 6), 5);
        Check.due("the next defect", x.defect(5, 0), 1);
        Check.due("the heap", x.scrap(5), 667 + 60);
        Check.hasAt(x, 0, 1, 5, 1);
        Check.hasAt(x, 1, 4, 0, 1);
    }

    /** "weights that sum": what is live and the heap are all that was ever melted, after every call. */
    private static void weightsSum() {
        PieceTrace x = new PieceTrace();
        x.melt(999_983, 777);
        sums(x, "melt");
        x.cut(0, 100); // 1, 2
        sums(x, "cut");
        x.slit(2, 4); // 3, 4, 5, 6
        sums(x, "slit");
        x.weld(5, 1); // 7
        sums(x, "weld");
        x.roll(7, 1, 19); // 8
        sums(x, "roll");
        x.scrap(8);
        sums(x, "scrap");
        x.back(37, 5); // 9
        sums(x, "back");
        x.melt(1, 1);
        sums(x, "another melt");
    }

    private static void sums(PieceTrace x, String after) {
        Check.due("live and heap after " + after, x.told(0) + x.told(1), x.told(2));
    }

    /** "used for at most 512 calls": the last of them are answered as the first ones. */
    private static void theLastCalls() {
        PieceTrace x = Check.filledTo(39);
        x.defect(0, 999);
        for (int call = 41; call <= 508; call++) {
            x.hold(1, call % 2 == 1);
        }
        Check.due("call 509", x.roll(0, 7, 3), 39);
        Check.due("call 510", x.recall(0, 0), 39);
        Check.due("call 511", x.has(0, 39, 0), 2331);
        Check.due("call 512", x.told(0), 39_000);
    }
}

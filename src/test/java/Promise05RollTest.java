/** Promise 5: roll. */
public final class Promise05RollTest {
    private static final int MOST = 1_000_000_000;

    public static void main(String[] args) {
        ordinary();
        lengthRoundedDown();
        leastAndMostRatios();
        ratiosThatAreRefused();
        theShortest();
        theLongest();
        tooLong();
        theThirdRoll();
        aFourthRoll();
        threeRollsFromSomeMelt();
        noSuchPiece();
        notLiveOrHeld();
        roomForOne();
        orderOfChecks();
        Check.end();
    }

    private static void ordinary() {
        PieceTrace x = Check.oneMelt(1666, 301);
        Check.due("roll", x.roll(0, 7, 3), 1);
        Check.pieceIs(x, 0, 1666, 301, 1, 0, -1, -1, 0);
        Check.pieceIs(x, 1, 1666, 702, 0, 0, 0, -1, 1);
        Check.due("the next number", x.melt(1, 1), 2);
    }

    /** "the length is length * a / b, rounded down". */
    private static void lengthRoundedDown() {
        int[][] due = {{10, 3, 2, 15}, {11, 3, 2, 16}, {10, 2, 3, 6}, {11, 2, 3, 7}, {12, 2, 3, 8}, {19, 19, 20, 18}};
        for (int[] row : due) {
            PieceTrace x = Check.oneMelt(5, row[0]);
            x.roll(0, row[1], row[2]);
            Check.weightsAndLengths(row[0] + " by " + row[1] + " / " + row[2], x, 1, 5, row[3]);
        }
    }

    /** "a ratio a / b (1 .. 20 each)". */
    private static void leastAndMostRatios() {
        int[][] due = {{1, 1, 100}, {1, 20, 5}, {20, 1, 2000}, {20, 20, 100}};
        for (int[] row : due) {
            PieceTrace x = Check.oneMelt(5, 100);
            Check.due("roll by " + row[0] + " / " + row[1], x.roll(0, row[0], row[1]), 1);
            Check.weightsAndLengths("by " + row[0] + " / " + row[1], x, 1, 5, row[2]);
        }
    }

    private static void ratiosThatAreRefused() {
        for (int ratio : Check.outside(1, 20)) {
            Check.refused("a " + ratio, Check.RANGE, Check::mixed, x -> x.roll(Check.FREE, ratio, 1));
            Check.refused("b " + ratio, Check.RANGE, Check::mixed, x -> x.roll(Check.FREE, 1, ratio));
            Check.refused("both " + ratio, Check.RANGE, Check::mixed, x -> x.roll(Check.FREE, ratio, ratio));
        }
        Check.refused("a -1, b -1", Check.RANGE, Check::mixed, x -> x.roll(Check.FREE, -1, -1));
    }

    /** The length is "1 or more". */
    private static void theShortest() {
        PieceTrace x = Check.oneMelt(1, 20);
        Check.due("roll to a millimetre", x.roll(0, 1, 20), 1);
        Check.weightsAndLengths("a millimetre", x, 1, 1, 1);
        Check.due("a millimetre as it is", x.roll(1, 1, 1), 2);
        PieceTrace y = Check.oneMelt(1, 39);
        Check.due("roll to nearly two", y.roll(0, 1, 20), 1);
        Check.weightsAndLengths("nearly two", y, 1, 1, 1);
        Check.refused("19 / 20", Check.MEANING, () -> Check.oneMelt(1, 19), z -> z.roll(0, 1, 20));
        Check.refused("1 / 2", Check.MEANING, () -> Check.oneMelt(1, 1), z -> z.roll(0, 1, 2));
        Check.refused("1 times 19 / 20", Check.MEANING, () -> Check.oneMelt(1, 1), z -> z.roll(0, 19, 20));
    }

    /** "1,000,000,000 at most". */
    private static void theLongest() {
        PieceTrace x = ofLength(950_000_000);
        Check.due("roll to 1000 km", x.roll(12, 20, 19), 13);
        Check.weightsAndLengths("1000 km", x, 13, x.at(12, 0), MOST);
        PieceTrace y = ofLength(833_333_333);
        Check.due("roll to a millimetre less", y.roll(12, 6, 5), 13);
        Check.due("a millimetre less", y.at(13, 1), MOST - 1);
        PieceTrace z = ofLength(833_333_334);
        Check.due("roll to 4 / 5 of a millimetre more", z.roll(12, 6, 5), 13);
        Check.due("1000 km, rounded down", z.at(13, 1), MOST);
    }

    private static void tooLong() {
        Check.refused("by a millimetre", Check.MEANING, () -> ofLength(950_000_001), x -> x.roll(12, 20, 19));
        Check.refused("far above an int", Check.MEANING, () -> ofLength(950_000_000), x -> x.roll(12, 20, 1));
        Check.refused("two to the 32nd and 4", Check.MEANING, () -> ofLength(858_993_460), x -> x.roll(12, 5, 1));
    }

    /** "A piece whose way from some melt has 3 rolls can't be rolled": one with 2 can. */
    private static void theThirdRoll() {
        PieceTrace x = Check.filledTo(1);
        Check.due("first", x.roll(0, 1, 1), 1);
        Check.due("second", x.roll(1, 1, 1), 2);
        Check.due("third", x.roll(2, 1, 1), 3);
        Check.due("three rolls", x.at(3, 6), 3);
    }

    private static void aFourthRoll() {
        Check.refused("of a rolled one", Check.MEANING, Promise05RollTest::rolledThrice, x -> x.roll(3, 1, 1));
        Check.refused("of a first part", Check.MEANING, Promise05RollTest::partsOfThree, x -> x.roll(4, 1, 1));
        Check.refused("of a second part", Check.MEANING, Promise05RollTest::partsOfThree, x -> x.roll(5, 1, 1));
        Check.refused("of a slit", Check.MEANING, Promise05RollTest::slitsOfThree, x -> x.roll(4, 1, 1));
        Check.refused("of another slit", Check.MEANING, Promise05RollTest::slitsOfThree, x -> x.roll(7, 1, 1));
        PieceTrace y = rolledThrice();
        y.scrap(3);
        y.back(100, 5);
        Check.due("a melt from the heap has none", y.roll(4, 1, 1), 5);
    }

    /** "from some melt": the other melt of a weld may have fewer. */
    private static void threeRollsFromSomeMelt() {
        Check.refused("by its first one", Check.MEANING, () -> weldOf(3, true), x -> x.roll(6, 1, 1));
        Check.refused("by its second one", Check.MEANING, () -> weldOf(3, false), x -> x.roll(6, 1, 1));
        Check.due("two by its first one", weldOf(2, true).roll(5, 1, 1), 6);
        Check.due("two by its second one", weldOf(2, false).roll(5, 1, 1), 6);
        PieceTrace y = weldOf(2, true);
        Check.due("three then", y.at(y.roll(5, 1, 1), 6), 3);
        Check.refused("two and one are three", Check.MEANING, Promise05RollTest::rolledWeldOfTwo, x -> x.roll(6, 1, 1));
    }

    /** "Index: no such piece". */
    private static void noSuchPiece() {
        for (int piece : Check.NOT_IN_MIXED) {
            Check.refused("no piece " + piece, Check.INDEX, Check::mixed, x -> x.roll(piece, 1, 1));
        }
    }

    /** "turn: it is not live, or held". */
    private static void notLiveOrHeld() {
        for (int piece : Check.NOT_FREE) {
            Check.refused("piece " + piece + " is not free", Check.TURN, Check::mixed, x -> x.roll(piece, 1, 1));
        }
        PieceTrace x = Check.mixed();
        x.hold(Check.HELD, false);
        Check.due("one let go", x.roll(Check.HELD, 1, 1), 5);
    }

    /** "meaning: there are 40". */
    private static void roomForOne() {
        Check.due("the 40th piece", Check.filledTo(39).roll(38, 1, 1), 39);
        Check.refused("a 41st", Check.MEANING, () -> Check.filledTo(40), x -> x.roll(39, 1, 1));
    }

    private static void orderOfChecks() {
        for (int piece : Check.NOT_IN_FULL) {
            Check.refused("index ahead of range", Check.INDEX, Check::fullMixed, x -> x.roll(piece, 0, 0));
            Check.refused("index ahead of meaning", Check.INDEX, Check::fullMixed, x -> x.roll(piece, 1, 1));
        }
        for (int piece : Check.NOT_FREE) {
            Check.refused("turn ahead of a", Check.TURN, Check::mixed, x -> x.roll(piece, 0, 1));
            Check.refused("turn ahead of b", Check.TURN, Check::mixed, x -> x.roll(piece, 1, 0));
            Check.refused("turn ahead of room", Check.TURN, Check::fullMixed, x -> x.roll(piece, 1, 1));
        }
        for (int ratio : Check.outside(1, 20)) {
            Check.refused("a ahead of room", Check.RANGE, Check::fullMixed, x -> x.roll(Check.FREE, ratio, 1));
            Check.refused("b ahead of room", Check.RANGE, Check::fullMixed, x -> x.roll(Check.FREE, 1, ratio));
            Check.refused("a ahead of rolls", Check.RANGE, Promise05RollTest::rolledThrice, x -> x.roll(3, ratio, 1));
            Check.refused("b ahead of rolls", Check.RANGE, Promise05RollTest::rolledThrice, x -> x.roll(3, 1, ratio));
            Check.refused("a ahead of length", Check.RANGE, () -> Check.oneMelt(1, 1), x -> x.roll(0, ratio, 20));
            Check.refused("b ahead of length", Check.RANGE, () -> ofLength(MOST), x -> x.roll(12, 20, ratio));
        }
        Check.refused("turn ahead of rolls", Check.TURN, Promise05RollTest::threeAndHeld, x -> x.roll(3, 1, 1));
        Check.refused("turn ahead of length", Check.TURN, Promise05RollTest::shortAndHeld, x -> x.roll(0, 1, 20));
    }

    private static PieceTrace rolledThrice() {
        PieceTrace x = Check.filledTo(1);
        x.roll(0, 1, 1);
        x.roll(1, 1, 1);
        x.roll(2, 1, 1);
        return x;
    }

    private static PieceTrace threeAndHeld() {
        PieceTrace x = rolledThrice();
        x.hold(3, true);
        return x;
    }

    private static PieceTrace shortAndHeld() {
        PieceTrace x = Check.oneMelt(1, 1);
        x.hold(0, true);
        return x;
    }

    private static PieceTrace partsOfThree() {
        PieceTrace x = rolledThrice();
        x.cut(3, 100);
        return x;
    }

    private static PieceTrace slitsOfThree() {
        PieceTrace x = rolledThrice();
        x.slit(3, 4);
        return x;
    }

    /** A weld of a melt rolled so often and of one that is not: number 3 and rolls. */
    private static PieceTrace weldOf(int rolls, boolean rolledFirst) {
        PieceTrace x = Check.filledTo(2);
        int rolled = 0;
        for (int i = 0; i < rolls; i++) {
            rolled = x.roll(rolled, 1, 1);
        }
        x.melt(1, 1);
        x.weld(rolledFirst ? rolled : 1, rolledFirst ? 1 : rolled);
        return x;
    }

    private static PieceTrace rolledWeldOfTwo() {
        PieceTrace x = weldOf(2, false);
        x.roll(5, 1, 1);
        return x;
    }

    /** 12: a piece with two rolls of any length from 800,000,001 to 1,000,000,000. */
    private static PieceTrace ofLength(int length) {
        PieceTrace x = threeLongOnes();
        x.weld(2, 5); // 9: 800 km
        x.cut(8, length - 800_000_000); // 10, 11
        x.weld(9, 10); // 12
        return x;
    }

    /** 2, 5 and 8: 400 km each, with two rolls. */
    private static PieceTrace threeLongOnes() {
        PieceTrace x = new PieceTrace();
        for (int i = 0; i < 3; i++) {
            int melt = x.melt(1000, 1_000_000);
            x.roll(x.roll(melt, 20, 1), 20, 1);
        }
        return x;
    }
}

/** Promise 5: roll. */
public final class Promise05RollTest {
    public static void main(String[] args) {
        ordinary();
        edges();
        refusals();
        threeRolls();
        lengths();
        Check.end();
    }

    private static void ordinary() {
        PieceTrace x = new PieceTrace();
        x.melt(1666, 301);
        Check.due("roll", x.roll(0, 7, 3), 1);
        Check.pieceIs(x, 0, 1666, 301, 1, 0, -1, -1, 0);
        Check.pieceIs(x, 1, 1666, 702, 0, 0, 0, -1, 1);
        x.roll(1, 1, 20);
        Check.pieceIs(x, 2, 1666, 35, 0, 0, 1, -1, 2);
        x.roll(2, 20, 20);
        Check.pieceIs(x, 3, 1666, 35, 0, 0, 2, -1, 3);
    }

    private static void edges() {
        PieceTrace x = new PieceTrace();
        x.melt(1, 20);
        x.roll(0, 1, 20);
        Check.weightsAndLengths("a millimetre", x, 1, 1, 1);
        PieceTrace y = veryLong();
        y.roll(2, 5, 2);
        Check.weightsAndLengths("a thousand kilometres", y, 3, 1, 1_000_000_000);
        Check.due("the 40th piece", Check.filledTo(39).roll(0, 1, 1), 39);
    }

    private static void refusals() {
        for (int piece : Check.NOT_IN_MIXED) {
            Check.refused("no piece " + piece, Check.INDEX, Check::mixed, x -> x.roll(piece, 0, 0));
        }
        for (int piece : Check.NOT_FREE_IN_MIXED) {
            Check.refused("not free", Check.TURN, Check::mixed, x -> x.roll(piece, 0, 0));
        }
        int[] ratios = {0, -1, 21, Integer.MIN_VALUE, Integer.MAX_VALUE};
        for (int ratio : ratios) {
            Check.refused("a " + ratio, Check.RANGE, Check::mixed, x -> x.roll(4, ratio, 1));
            Check.refused("b " + ratio, Check.RANGE, Check::mixed, x -> x.roll(4, 1, ratio));
        }
        Check.refused("no room", Check.MEANING, () -> Check.filledTo(40), x -> x.roll(0, 1, 1));
        Check.refused("range ahead of room", Check.RANGE, () -> Check.filledTo(40), x -> x.roll(0, 1, 0));
    }

    private static void threeRolls() {
        Check.refused("a fourth roll", Check.MEANING, Promise05RollTest::rolledThrice, x -> x.roll(3, 1, 1));
        Check.refused("a fourth of a part", Check.MEANING, Promise05RollTest::partsOfThree, x -> x.roll(5, 1, 1));
        Check.refused("a fourth of a slit", Check.MEANING, Promise05RollTest::partsOfThree, x -> x.roll(7, 1, 1));
        Check.refused("a fourth of some melt", Check.MEANING, Promise05RollTest::weldOfThree, x -> x.roll(5, 1, 1));
        Check.refused("range ahead of rolls", Check.RANGE, Promise05RollTest::rolledThrice, x -> x.roll(3, 0, 1));
    }

    private static void lengths() {
        Check.refused("shorter than a millimetre", Check.MEANING, Promise05RollTest::nineteen, x -> x.roll(0, 1, 20));
        Check.refused("too long", Check.MEANING, Promise05RollTest::veryLong, x -> x.roll(2, 18, 7));
        Check.refused("far too long", Check.MEANING, Promise05RollTest::veryLong, x -> x.roll(2, 20, 1));
    }

    private static PieceTrace rolledThrice() {
        PieceTrace x = Check.filledTo(1);
        x.roll(0, 1, 1);
        x.roll(1, 1, 1);
        x.roll(2, 1, 1);
        return x;
    }

    private static PieceTrace partsOfThree() {
        PieceTrace x = rolledThrice();
        x.cut(3, 100);
        x.slit(4, 2);
        return x;
    }

    private static PieceTrace weldOfThree() {
        PieceTrace x = rolledThrice();
        x.melt(1, 1);
        x.weld(4, 3);
        return x;
    }

    private static PieceTrace nineteen() {
        PieceTrace x = new PieceTrace();
        x.melt(1, 19);
        return x;
    }

    /** 2: 400 km. */
    private static PieceTrace veryLong() {
        PieceTrace x = new PieceTrace();
        x.melt(1, 1_000_000);
        x.roll(0, 20, 1);
        x.roll(1, 20, 1);
        return x;
    }
}

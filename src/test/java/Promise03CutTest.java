/** Promise 3: cut. */
public final class Promise03CutTest {
    public static void main(String[] args) {
        ordinary();
        edges();
        heavyAndLong();
        refusals();
        Check.end();
    }

    private static void ordinary() {
        PieceTrace x = Check.filledTo(1);
        Check.due("melt", x.melt(1000, 300), 1);
        Check.due("cut", x.cut(1, 100), 2);
        Check.pieceIs(x, 1, 1000, 300, 1, 0, -1, -1, 0);
        Check.pieceIs(x, 2, 333, 100, 0, 0, 1, -1, 0);
        Check.pieceIs(x, 3, 667, 200, 0, 0, 1, -1, 0);
        Check.due("the next number", x.melt(1, 1), 4);
    }

    private static void edges() {
        PieceTrace x = new PieceTrace();
        x.melt(10, 1000);
        x.cut(0, 1);
        Check.weightsAndLengths("a part without weight", x, 1, 0, 1);
        Check.weightsAndLengths("the other", x, 2, 10, 999);
        x.cut(2, 998);
        Check.weightsAndLengths("cut at the last place", x, 3, 9, 998);
        Check.weightsAndLengths("the last millimetre", x, 4, 1, 1);
        Check.due("the 39th and 40th piece", Check.filledTo(38).cut(0, 1), 38);
    }

    /** Weight times place is far above an int. */
    private static void heavyAndLong() {
        PieceTrace x = new PieceTrace();
        x.melt(1_000_000, 1_000_000);
        x.roll(0, 20, 1);
        x.roll(1, 20, 1);
        x.cut(2, 399_999_999);
        Check.weightsAndLengths("first", x, 3, 999_999, 399_999_999);
        Check.weightsAndLengths("second", x, 4, 1, 1);
    }

    private static void refusals() {
        for (int piece : Check.NOT_IN_MIXED) {
            Check.refused("no piece " + piece, Check.INDEX, Check::mixed, x -> x.cut(piece, 0));
        }
        for (int piece : Check.NOT_FREE_IN_MIXED) {
            Check.refused("not free", Check.TURN, Check::mixed, x -> x.cut(piece, 0));
        }
        int[] places = {0, -1, 7, 8, Integer.MIN_VALUE, Integer.MAX_VALUE};
        for (int place : places) {
            Check.refused("place " + place, Check.RANGE, Check::mixed, x -> x.cut(4, place));
        }
        Check.refused("a millimetre", Check.RANGE, Promise03CutTest::aMillimetre, x -> x.cut(0, 1));
        Check.refused("no room for two", Check.MEANING, () -> Check.filledTo(39), x -> x.cut(0, 1));
        Check.refused("no room", Check.MEANING, () -> Check.filledTo(40), x -> x.cut(0, 1));
        Check.refused("range ahead of room", Check.RANGE, () -> Check.filledTo(40), x -> x.cut(0, 1000));
    }

    private static PieceTrace aMillimetre() {
        PieceTrace x = new PieceTrace();
        x.melt(5, 1);
        return x;
    }
}

/** Promise 4: weld. */
public final class Promise04WeldTest {
    public static void main(String[] args) {
        ordinary();
        rollsAreTheMost();
        edges();
        refusals();
        tooLong();
        Check.end();
    }

    private static void ordinary() {
        PieceTrace x = new PieceTrace();
        x.melt(667, 200);
        x.melt(999, 100);
        Check.due("weld", x.weld(1, 0), 2);
        Check.pieceIs(x, 0, 667, 200, 1, 0, -1, -1, 0);
        Check.pieceIs(x, 1, 999, 100, 1, 0, -1, -1, 0);
        Check.pieceIs(x, 2, 1666, 300, 0, 0, 1, 0, 0);
    }

    private static void rollsAreTheMost() {
        PieceTrace x = Check.filledTo(2);
        x.roll(0, 1, 2);
        x.roll(2, 1, 2);
        Check.due("rolls of the first", x.at(x.weld(3, 1), 6), 2);
        PieceTrace y = Check.filledTo(2);
        y.roll(0, 1, 2);
        y.roll(2, 1, 2);
        Check.due("rolls of the second", y.at(y.weld(1, 3), 6), 2);
    }

    private static void edges() {
        Check.due("the 40th piece", Check.filledTo(39).weld(37, 38), 39);
        PieceTrace x = longOnes();
        int most = x.weld(2, 6);
        Check.weightsAndLengths("the longest", x, most, 1_002_000, 1_000_000_000);
    }

    private static void refusals() {
        for (int piece : Check.NOT_IN_MIXED) {
            Check.refused("no second " + piece, Check.INDEX, Check::mixed, x -> x.weld(0, piece));
            Check.refused("no first " + piece, Check.INDEX, Check::mixed, x -> x.weld(piece, 0));
        }
        Check.refused("one", Check.INDEX, Check::mixed, x -> x.weld(1, 1));
        Check.refused("one that is used", Check.INDEX, Check::mixed, x -> x.weld(0, 0));
        for (int piece : Check.NOT_FREE_IN_MIXED) {
            Check.refused("not free, second", Check.TURN, Check::mixed, x -> x.weld(1, piece));
            Check.refused("not free, first", Check.TURN, Check::mixed, x -> x.weld(piece, 1));
        }
        Check.refused("no room", Check.MEANING, () -> Check.filledTo(40), x -> x.weld(0, 1));
        Check.refused("turn ahead of room", Check.TURN, Promise04WeldTest::fullAndHeld, x -> x.weld(0, 1));
    }

    private static void tooLong() {
        Check.refused("too long by a millimetre", Check.MEANING, Promise04WeldTest::longest, x -> x.weld(8, 7));
        Check.refused("twice too long", Check.MEANING, Promise04WeldTest::twoLongest, x -> x.weld(8, 12));
    }

    private static PieceTrace fullAndHeld() {
        PieceTrace x = Check.filledTo(40);
        x.hold(1, true);
        return x;
    }

    /** 2: 400 km, 6: 600 km, 7: a millimetre. */
    private static PieceTrace longOnes() {
        PieceTrace x = new PieceTrace();
        x.melt(1_000_000, 1_000_000);
        x.roll(0, 20, 1);
        x.roll(1, 20, 1);
        x.melt(2_000, 1_000_000);
        x.roll(3, 20, 1);
        x.roll(4, 20, 1);
        x.roll(5, 3, 2);
        x.melt(1, 1);
        return x;
    }

    /** 8: 1000 km. */
    private static PieceTrace longest() {
        PieceTrace x = longOnes();
        x.weld(2, 6);
        return x;
    }

    private static PieceTrace twoLongest() {
        PieceTrace x = longest();
        x.melt(1, 1_000_000);
        x.roll(9, 20, 1);
        x.roll(10, 20, 1);
        x.roll(11, 5, 2);
        return x;
    }
}

/** Promise 4: weld. */
public final class Promise04WeldTest {
    private static final int MOST = 1_000_000_000;

    public static void main(String[] args) {
        ordinary();
        rollsAreTheMost();
        noSuchPieces();
        theyAreOne();
        notLiveOrHeld();
        roomForOne();
        theLongestWeld();
        tooLong();
        theHeaviestWeld();
        orderOfChecks();
        Check.end();
    }

    /** "lengths and weights are sums"; both are used then. */
    private static void ordinary() {
        PieceTrace x = new PieceTrace();
        x.melt(667, 200);
        x.melt(999, 100);
        Check.due("weld", x.weld(1, 0), 2);
        Check.pieceIs(x, 0, 667, 200, 1, 0, -1, -1, 0);
        Check.pieceIs(x, 1, 999, 100, 1, 0, -1, -1, 0);
        Check.pieceIs(x, 2, 1666, 300, 0, 0, 1, 0, 0);
        Check.due("the next number", x.melt(1, 1), 3);
    }

    private static void rollsAreTheMost() {
        PieceTrace x = twiceRolledAndMelt();
        Check.due("rolls of the first", x.at(x.weld(3, 1), 6), 2);
        PieceTrace y = twiceRolledAndMelt();
        Check.due("rolls of the second", y.at(y.weld(1, 3), 6), 2);
    }

    /** "Index: no such pieces". */
    private static void noSuchPieces() {
        for (int piece : Check.NOT_IN_MIXED) {
            Check.refused("no second " + piece, Check.INDEX, Check::mixed, x -> x.weld(Check.FREE, piece));
            Check.refused("no first " + piece, Check.INDEX, Check::mixed, x -> x.weld(piece, Check.FREE));
            Check.refused("neither", Check.INDEX, Check::mixed, x -> x.weld(piece, piece));
        }
    }

    /** "or they are one". */
    private static void theyAreOne() {
        Check.refused("one", Check.INDEX, Check::mixed, x -> x.weld(Check.FREE, Check.FREE));
        Check.refused("the only one", Check.INDEX, () -> Check.filledTo(1), x -> x.weld(0, 0));
        Check.refused("the last one", Check.INDEX, () -> Check.filledTo(40), x -> x.weld(39, 39));
    }

    /** "turn: one is not live, or held". */
    private static void notLiveOrHeld() {
        for (int piece : Check.NOT_FREE) {
            Check.refused("not free, second", Check.TURN, Check::mixed, x -> x.weld(Check.FREE, piece));
            Check.refused("not free, first", Check.TURN, Check::mixed, x -> x.weld(piece, Check.FREE));
            for (int other : Check.NOT_FREE) {
                if (other != piece) {
                    Check.refused("neither is free", Check.TURN, Check::mixed, x -> x.weld(piece, other));
                }
            }
        }
        PieceTrace x = Check.mixed();
        x.hold(Check.HELD, false);
        Check.due("one let go", x.weld(Check.HELD, Check.FREE), 5);
    }

    /** "meaning: there are 40". */
    private static void roomForOne() {
        Check.due("the 40th piece", Check.filledTo(39).weld(37, 38), 39);
        Check.refused("a 41st", Check.MEANING, () -> Check.filledTo(40), x -> x.weld(38, 39));
    }

    /** "lengths .. are sums (not above 1,000,000,000 ..)". */
    private static void theLongestWeld() {
        PieceTrace x = longOnes();
        Check.due("weld", x.weld(2, 6), 8);
        Check.weightsAndLengths("the longest", x, 8, 1_002_000, MOST);
        PieceTrace y = longOnes();
        Check.due("the other way", y.weld(6, 2), 8);
        Check.weightsAndLengths("the longest", y, 8, 1_002_000, MOST);
    }

    /** "or it would be too long": by a millimetre, and by so much that the sum is near the end of an int. */
    private static void tooLong() {
        Check.refused("a millimetre behind", Check.MEANING, Promise04WeldTest::longest, x -> x.weld(8, 7));
        Check.refused("a millimetre ahead", Check.MEANING, Promise04WeldTest::longest, x -> x.weld(7, 8));
        Check.refused("twice too long", Check.MEANING, Promise04WeldTest::twoLongest, x -> x.weld(8, 12));
    }

    /** "or heavy" can't be: 40 pieces weigh 38 tons at most in a weld. */
    private static void theHeaviestWeld() {
        PieceTrace x = new PieceTrace();
        for (int piece = 0; piece < 37; piece++) {
            x.melt(1_000_000, 1);
            x.scrap(piece);
        }
        x.back(100, 1);
        x.melt(1_000_000, 1);
        Check.due("weld", x.weld(37, 38), 39);
        Check.weightsAndLengths("the heaviest", x, 39, 38_000_000, 2);
    }

    private static void orderOfChecks() {
        for (int piece : Check.NOT_IN_FULL) {
            for (int other : Check.NOT_FREE) {
                Check.refused("no first ahead of turn", Check.INDEX, Check::fullMixed, x -> x.weld(piece, other));
                Check.refused("no second ahead of turn", Check.INDEX, Check::fullMixed, x -> x.weld(other, piece));
            }
            Check.refused("no first ahead of room", Check.INDEX, Check::fullMixed, x -> x.weld(piece, Check.FREE));
            Check.refused("no second ahead of room", Check.INDEX, Check::fullMixed, x -> x.weld(Check.FREE, piece));
        }
        for (int piece : Check.NOT_FREE) {
            Check.refused("one ahead of turn", Check.INDEX, Check::mixed, x -> x.weld(piece, piece));
            Check.refused("one ahead of both", Check.INDEX, Check::fullMixed, x -> x.weld(piece, piece));
            Check.refused("first's turn ahead of room", Check.TURN, Check::fullMixed, x -> x.weld(piece, Check.FREE));
            Check.refused("second's turn ahead of room", Check.TURN, Check::fullMixed, x -> x.weld(Check.FREE, piece));
        }
        Check.refused("one ahead of room", Check.INDEX, Check::fullMixed, x -> x.weld(Check.FREE, Check.FREE));
        Check.refused("one ahead of length", Check.INDEX, Promise04WeldTest::longest, x -> x.weld(8, 8));
        Check.refused("turn ahead of length", Check.TURN, Promise04WeldTest::longestIsHeld, x -> x.weld(8, 7));
        Check.refused("turn ahead of length", Check.TURN, Promise04WeldTest::longestIsHeld, x -> x.weld(7, 8));
    }

    private static PieceTrace twiceRolledAndMelt() {
        PieceTrace x = Check.filledTo(2);
        x.roll(0, 1, 2);
        x.roll(2, 1, 2);
        return x;
    }

    /** 2: 400 km, 6: 600 km, 7: a millimetre. */
    private static PieceTrace longOnes() {
        PieceTrace x = new PieceTrace();
        x.melt(1_000_000, 1_000_000);
        x.roll(0, 20, 1);
        x.roll(1, 20, 1);
        x.melt(2_000, 1_000_000);
        x.roll(3, 20, 1);
        x.roll(4, 20, 1);
        x.roll(5, 3, 2);
        x.melt(1, 1);
        return x;
    }

    /** 8: 1000 km. */
    private static PieceTrace longest() {
        PieceTrace x = longOnes();
        x.weld(2, 6);
        return x;
    }

    private static PieceTrace longestIsHeld() {
        PieceTrace x = longest();
        x.hold(8, true);
        return x;
    }

    private static PieceTrace twoLongest() {
        PieceTrace x = longest();
        x.melt(1, 1_000_000);
        x.roll(9, 20, 1);
        x.roll(10, 20, 1);
        x.roll(11, 5, 2);
        return x;
    }
}

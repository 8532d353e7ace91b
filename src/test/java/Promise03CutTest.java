/** Promise 3: cut. */
public final class Promise03CutTest {
    public static void main(String[] args) {
        ordinary();
        weightRoundedDown();
        firstPlaceThatIsTaken();
        lastPlaceThatIsTaken();
        placesThatAreRefused();
        aMillimetreHasNone();
        heavyAndLong();
        noSuchPiece();
        notLiveOrHeld();
        roomForTwo();
        orderOfChecks();
        Check.end();
    }

    /** "the first part's number (the second one's is the next)"; the whole is used then. */
    private static void ordinary() {
        PieceTrace x = Check.filledTo(1);
        x.melt(1000, 300);
        Check.due("cut", x.cut(1, 100), 2);
        Check.pieceIs(x, 0, 1000, 1000, 0, 0, -1, -1, 0);
        Check.pieceIs(x, 1, 1000, 300, 1, 0, -1, -1, 0);
        Check.pieceIs(x, 2, 333, 100, 0, 0, 1, -1, 0);
        Check.pieceIs(x, 3, 667, 200, 0, 0, 1, -1, 0);
        Check.due("the next number", x.melt(1, 1), 4);
    }

    /** "weight * p / length (rounded down)"; the second "the rest of length and weight". */
    private static void weightRoundedDown() {
        int[][] due = {{10, 1, 9}, {20, 2, 8}, {30, 3, 7}, {99, 9, 1}, {9, 0, 10}};
        for (int[] row : due) {
            PieceTrace x = Check.oneMelt(10, 100);
            x.cut(0, row[0]);
            Check.weightsAndLengths("first of a cut at " + row[0], x, 1, row[1], row[0]);
            Check.weightsAndLengths("second of a cut at " + row[0], x, 2, row[2], 100 - row[0]);
        }
    }

    /** "whole, 1 or more". */
    private static void firstPlaceThatIsTaken() {
        PieceTrace x = Check.oneMelt(1000, 1000);
        Check.due("cut at 1", x.cut(0, 1), 1);
        Check.weightsAndLengths("first", x, 1, 1, 1);
        Check.weightsAndLengths("second", x, 2, 999, 999);
    }

    /** "below the length". */
    private static void lastPlaceThatIsTaken() {
        PieceTrace x = Check.oneMelt(1000, 1000);
        Check.due("cut at 999", x.cut(0, 999), 1);
        Check.weightsAndLengths("first", x, 1, 999, 999);
        Check.weightsAndLengths("second", x, 2, 1, 1);
        PieceTrace y = Check.oneMelt(1, 2);
        Check.due("the only place", y.cut(0, 1), 1);
        Check.weightsAndLengths("first", y, 1, 0, 1);
        Check.weightsAndLengths("second", y, 2, 1, 1);
    }

    private static void placesThatAreRefused() {
        for (int place : Check.outside(1, Check.FREE_LENGTH - 1)) {
            Check.refused("place " + place, Check.RANGE, Check::mixed, x -> x.cut(Check.FREE, place));
        }
        Check.refused("place -1", Check.RANGE, Check::mixed, x -> x.cut(Check.FREE, -1));
    }

    private static void aMillimetreHasNone() {
        for (int place : new int[] {-1, 0, 1, 2}) {
            Check.refused("place " + place, Check.RANGE, () -> Check.oneMelt(5, 1), x -> x.cut(0, place));
        }
    }

    /** Weight times place is far above an int. */
    private static void heavyAndLong() {
        PieceTrace x = Check.oneMelt(1_000_000, 1_000_000);
        x.roll(0, 20, 1);
        x.roll(1, 20, 1);
        x.roll(2, 5, 2);
        x.cut(3, 999_999_999);
        Check.weightsAndLengths("first", x, 4, 999_999, 999_999_999);
        Check.weightsAndLengths("second", x, 5, 1, 1);
    }

    /** "Index: no such piece". */
    private static void noSuchPiece() {
        for (int piece : Check.NOT_IN_MIXED) {
            Check.refused("no piece " + piece, Check.INDEX, Check::mixed, x -> x.cut(piece, 1));
        }
        PieceTrace x = Check.filledTo(3);
        Check.due("the last piece there is", x.cut(2, 1), 3);
    }

    /** "turn: it is not live, or held". */
    private static void notLiveOrHeld() {
        for (int piece : Check.NOT_FREE) {
            Check.refused("piece " + piece + " is not free", Check.TURN, Check::mixed, x -> x.cut(piece, 1));
        }
        PieceTrace x = Check.mixed();
        x.hold(Check.HELD, false);
        Check.due("one let go", x.cut(Check.HELD, 1), 5);
    }

    /** "meaning: there would be more than 40". */
    private static void roomForTwo() {
        PieceTrace x = Check.filledTo(38);
        Check.due("the 39th and 40th", x.cut(0, 1), 38);
        Check.weightsAndLengths("the 40th", x, 39, 999, 999);
        Check.refused("room for one", Check.MEANING, () -> Check.filledTo(39), y -> y.cut(0, 1));
        Check.refused("room for none", Check.MEANING, () -> Check.filledTo(40), y -> y.cut(0, 1));
    }

    private static void orderOfChecks() {
        for (int piece : Check.NOT_IN_FULL) {
            Check.refused("index ahead of range", Check.INDEX, Check::fullMixed, x -> x.cut(piece, 0));
            Check.refused("index ahead of meaning", Check.INDEX, Check::fullMixed, x -> x.cut(piece, 1));
        }
        for (int piece : Check.NOT_FREE) {
            Check.refused("turn ahead of range", Check.TURN, Check::mixed, x -> x.cut(piece, 0));
            Check.refused("turn ahead of meaning", Check.TURN, Check::fullMixed, x -> x.cut(piece, 1));
            Check.refused("turn ahead of both", Check.TURN, Check::fullMixed, x -> x.cut(piece, 0));
        }
        for (int place : Check.outside(1, Check.FREE_LENGTH - 1)) {
            Check.refused("range ahead of meaning", Check.RANGE, Check::fullMixed, x -> x.cut(Check.FREE, place));
        }
    }
}

/** Promise 6: slit. */
public final class Promise06SlitTest {
    public static void main(String[] args) {
        ordinary();
        lessWeightThanSlits();
        leastAndMostSlits();
        numbersThatAreRefused();
        noSuchPiece();
        notLiveOrHeld();
        roomForAll();
        orderOfChecks();
        Check.end();
    }

    /** "each weight / n, rounded down, the first one with the rest"; the whole is used then. */
    private static void ordinary() {
        int[][] shares = {{834, 833}, {557, 555, 555}, {419, 416, 416, 416}};
        for (int[] due : shares) {
            PieceTrace x = Check.oneMelt(9, 9);
            x.melt(1667, 700);
            int n = due.length;
            Check.due("slit", x.slit(1, n), 2);
            Check.pieceIs(x, 1, 1667, 700, 1, 0, -1, -1, 0);
            for (int i = 0; i < n; i++) {
                Check.pieceIs(x, 2 + i, due[i], 700, 0, 0, 1, -1, 0);
            }
            Check.due("the next number", x.melt(1, 1), 2 + n);
        }
        PieceTrace y = Check.oneMelt(8, 5);
        y.slit(0, 4);
        Check.weightsAndLengths("no rest", y, 1, 2, 5);
        Check.weightsAndLengths("no rest", y, 4, 2, 5);
    }

    private static void lessWeightThanSlits() {
        PieceTrace x = Check.oneMelt(3, 1);
        x.slit(0, 4);
        Check.weightsAndLengths("all of it", x, 1, 3, 1);
        for (int piece = 2; piece <= 4; piece++) {
            Check.weightsAndLengths("none of it", x, piece, 0, 1);
        }
        x.slit(4, 2);
        Check.weightsAndLengths("a slit of no weight", x, 5, 0, 1);
        Check.weightsAndLengths("a slit of no weight", x, 6, 0, 1);
    }

    /** "SLIT into n (2 .. 4)". */
    private static void leastAndMostSlits() {
        PieceTrace x = Check.oneMelt(12, 5);
        Check.due("into 2", x.slit(0, 2), 1);
        Check.due("two of them", x.melt(1, 1), 3);
        PieceTrace y = Check.oneMelt(12, 5);
        Check.due("into 4", y.slit(0, 4), 1);
        Check.due("four of them", y.melt(1, 1), 5);
    }

    private static void numbersThatAreRefused() {
        for (int n : Check.outside(2, 4)) {
            Check.refused("n " + n, Check.RANGE, Check::mixed, x -> x.slit(Check.FREE, n));
        }
        Check.refused("n 0", Check.RANGE, Check::mixed, x -> x.slit(Check.FREE, 0));
        Check.refused("n -1", Check.RANGE, Check::mixed, x -> x.slit(Check.FREE, -1));
    }

    /** "Index: no such piece". */
    private static void noSuchPiece() {
        for (int piece : Check.NOT_IN_MIXED) {
            Check.refused("no piece " + piece, Check.INDEX, Check::mixed, x -> x.slit(piece, 2));
        }
    }

    /** "turn: it is not live, or held". */
    private static void notLiveOrHeld() {
        for (int piece : Check.NOT_FREE) {
            Check.refused("piece " + piece + " is not free", Check.TURN, Check::mixed, x -> x.slit(piece, 2));
        }
        PieceTrace x = Check.mixed();
        x.hold(Check.HELD, false);
        Check.due("one let go", x.slit(Check.HELD, 2), 5);
    }

    /** "meaning: there would be more than 40". */
    private static void roomForAll() {
        for (int slits = 2; slits <= 4; slits++) {
            int n = slits;
            PieceTrace x = Check.filledTo(40 - n);
            Check.due("up to the 40th", x.slit(0, n), 40 - n);
            Check.weightsAndLengths("the 40th", x, 39, 1000 / n, 1000);
            for (int pieces = 41 - n; pieces <= 40; pieces++) {
                int full = pieces;
                Check.refused(n + " beside " + full, Check.MEANING, () -> Check.filledTo(full), y -> y.slit(0, n));
            }
        }
    }

    private static void orderOfChecks() {
        for (int piece : Check.NOT_IN_FULL) {
            Check.refused("index ahead of range", Check.INDEX, Check::fullMixed, x -> x.slit(piece, 1));
            Check.refused("index ahead of meaning", Check.INDEX, Check::fullMixed, x -> x.slit(piece, 2));
        }
        for (int piece : Check.NOT_FREE) {
            Check.refused("turn ahead of range", Check.TURN, Check::mixed, x -> x.slit(piece, 5));
            Check.refused("turn ahead of meaning", Check.TURN, Check::fullMixed, x -> x.slit(piece, 4));
            Check.refused("turn ahead of both", Check.TURN, Check::fullMixed, x -> x.slit(piece, 1));
        }
        for (int n : Check.outside(2, 4)) {
            Check.refused("range ahead of meaning", Check.RANGE, Check::fullMixed, x -> x.slit(Check.FREE, n));
        }
    }
}

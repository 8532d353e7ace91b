/** Promise 6: slit. */
public final class Promise06SlitTest {
    public static void main(String[] args) {
        ordinary();
        edges();
        refusals();
        Check.end();
    }

    private static void ordinary() {
        int[][] shares = {{834, 833}, {557, 555, 555}, {419, 416, 416, 416}};
        for (int[] due : shares) {
            PieceTrace x = new PieceTrace();
            x.melt(9, 9);
            x.melt(1667, 700);
            int n = due.length;
            Check.due("slit", x.slit(1, n), 2);
            for (int i = 0; i < n; i++) {
                Check.pieceIs(x, 2 + i, due[i], 700, 0, 0, 1, -1, 0);
            }
            Check.due("the whole is used", x.at(1, 2), 1);
            Check.due("the next number", x.melt(1, 1), 2 + n);
        }
    }

    private static void edges() {
        PieceTrace x = new PieceTrace();
        x.melt(3, 1);
        x.slit(0, 4);
        Check.weightsAndLengths("all of it", x, 1, 3, 1);
        Check.weightsAndLengths("none of it", x, 4, 0, 1);
        x.slit(4, 2);
        Check.weightsAndLengths("a slit without weight", x, 5, 0, 1);
        for (int n = 2; n <= 4; n++) {
            Check.due("up to the 40th piece", Check.filledTo(40 - n).slit(0, n), 40 - n);
        }
    }

    private static void refusals() {
        for (int piece : Check.NOT_IN_MIXED) {
            Check.refused("no piece " + piece, Check.INDEX, Check::mixed, x -> x.slit(piece, 0));
        }
        for (int piece : Check.NOT_FREE_IN_MIXED) {
            Check.refused("not free", Check.TURN, Check::mixed, x -> x.slit(piece, 0));
        }
        int[] numbers = {1, 0, -1, 5, Integer.MIN_VALUE, Integer.MAX_VALUE};
        for (int n : numbers) {
            Check.refused("n " + n, Check.RANGE, Check::mixed, x -> x.slit(4, n));
        }
        for (int slits = 2; slits <= 4; slits++) {
            int n = slits;
            Check.refused("no room for " + n, Check.MEANING, () -> Check.filledTo(41 - n), x -> x.slit(0, n));
        }
        Check.refused("range ahead of room", Check.RANGE, () -> Check.filledTo(40), x -> x.slit(0, 5));
    }
}

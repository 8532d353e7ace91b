/** Promise 2: melt. */
public final class Promise02MeltTest {
    public static void main(String[] args) {
        ordinary();
        edges();
        refusals();
        Check.end();
    }

    private static void ordinary() {
        PieceTrace x = new PieceTrace();
        Check.due("first melt", x.melt(1000, 300), 0);
        Check.due("second melt", x.melt(999, 100), 1);
        Check.pieceIs(x, 0, 1000, 300, 0, 0, -1, -1, 0);
        Check.pieceIs(x, 1, 999, 100, 0, 0, -1, -1, 0);
    }

    private static void edges() {
        PieceTrace x = new PieceTrace();
        x.melt(1, 1);
        x.melt(1_000_000, 1_000_000);
        Check.weightsAndLengths("the least melt", x, 0, 1, 1);
        Check.weightsAndLengths("the largest melt", x, 1, 1_000_000, 1_000_000);
        Check.due("the 40th piece", Check.filledTo(39).melt(1, 1), 39);
    }

    private static void refusals() {
        int[] wrong = {0, -1, 1_000_001, Integer.MIN_VALUE, Integer.MAX_VALUE};
        for (int number : wrong) {
            Check.refused("weight " + number, Check.RANGE, Check::mixed, x -> x.melt(number, 1));
            Check.refused("length " + number, Check.RANGE, Check::mixed, x -> x.melt(1, number));
        }
        Check.refused("no room", Check.MEANING, () -> Check.filledTo(40), x -> x.melt(1, 1));
        Check.refused("range ahead of room", Check.RANGE, () -> Check.filledTo(40), x -> x.melt(1, 0));
        Check.refused("range ahead of room", Check.RANGE, () -> Check.filledTo(40), x -> x.melt(0, 1));
    }
}

/** Promise 9: back. */
public final class Promise09BackTest {
    public static void main(String[] args) {
        ordinary();
        edges();
        largeHeap();
        refusals();
        Check.end();
    }

    private static void ordinary() {
        PieceTrace x = heapOf(556);
        Check.due("back", x.back(33, 50), 1);
        Check.pieceIs(x, 1, 183, 50, 0, 0, -1, -1, 0);
        Check.due("the heap is less", x.told(1), 373);
        Check.due("it is live", x.told(0), 183);
        Check.due("no melt of its own", x.told(2), 556);
        x.defect(1, 7);
        Check.originIs(x, 1, 7, 1, 7, 1);
        Check.hasAt(x, 0, 1, 7, 1);
    }

    private static void edges() {
        PieceTrace x = heapOf(100);
        x.back(1, 1);
        Check.weightsAndLengths("a gram", x, 1, 1, 1);
        x.back(100, 1_000_000);
        Check.weightsAndLengths("all of it", x, 2, 99, 1_000_000);
        Check.due("an empty heap", x.told(1), 0);
        PieceTrace y = Check.filledTo(39);
        y.scrap(0);
        Check.due("the 40th piece", y.back(50, 5), 39);
    }

    /** The heap times a percentage is far above an int, and a melt from it above 1,000,000. */
    private static void largeHeap() {
        PieceTrace x = new PieceTrace();
        for (int i = 0; i < 39; i++) {
            x.melt(1_000_000, 1);
            x.scrap(i);
        }
        x.back(99, 1);
        Check.weightsAndLengths("a heavy one", x, 39, 38_610_000, 1);
        Check.due("the heap", x.told(1), 390_000);
    }

    private static void refusals() {
        int[] percents = {0, -1, 101, Integer.MIN_VALUE, Integer.MAX_VALUE};
        for (int percent : percents) {
            Check.refused("percent " + percent, Check.RANGE, Check::mixed, x -> x.back(percent, 1));
        }
        int[] lengths = {0, -1, 1_000_001, Integer.MIN_VALUE, Integer.MAX_VALUE};
        for (int length : lengths) {
            Check.refused("length " + length, Check.RANGE, Check::mixed, x -> x.back(50, length));
        }
        Check.refused("an empty heap", Check.MEANING, () -> Check.filledTo(1), x -> x.back(100, 1));
        Check.refused("less than a gram", Check.MEANING, () -> heapOf(99), x -> x.back(1, 1));
        Check.refused("range ahead of meaning", Check.RANGE, PieceTrace::new, x -> x.back(101, 1));
        Check.refused("no room", Check.MEANING, Promise09BackTest::fullWithHeap, x -> x.back(50, 1));
        Check.refused("range ahead of room", Check.RANGE, Promise09BackTest::fullWithHeap, x -> x.back(50, 0));
    }

    private static PieceTrace heapOf(int weight) {
        PieceTrace x = new PieceTrace();
        x.melt(weight, 10);
        x.scrap(0);
        return x;
    }

    private static PieceTrace fullWithHeap() {
        PieceTrace x = Check.filledTo(40);
        x.scrap(0);
        return x;
    }
}

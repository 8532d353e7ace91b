/** Promise 9: back. */
public final class Promise09BackTest {
    private static final int MOST = 1_000_000;

    public static void main(String[] args) {
        ordinary();
        shareRoundedDown();
        leastAndMostPercent();
        leastAndMostLength();
        aGram();
        lessThanAGram();
        anEmptyHeap();
        largeHeap();
        roomForOne();
        rangeAheadOfMeaning();
        Check.end();
    }

    /** The share "leaves it and is a melt of a told length". */
    private static void ordinary() {
        PieceTrace x = heapOf(556);
        Check.due("back", x.back(33, 50), 1);
        Check.pieceIs(x, 1, 183, 50, 0, 0, -1, -1, 0);
        Check.due("the heap is less", x.told(1), 373);
        Check.due("it is live", x.told(0), 183);
        Check.due("no melt of its own", x.told(2), 556);
        x.defect(1, 7);
        Check.originIs(x, 1, 7, 1, 7, 1);
        Check.hasAt(x, 0, 1, 7, 1);
        Check.hasNot(x, 0, 0);
    }

    /** "percent, rounded down". */
    private static void shareRoundedDown() {
        int[][] due = {{101, 1, 1}, {199, 1, 1}, {200, 1, 2}, {3, 50, 1}, {3, 66, 1}, {3, 67, 2}, {3, 99, 2}};
        for (int[] row : due) {
            PieceTrace x = heapOf(row[0]);
            x.back(row[1], 9);
            Check.weightsAndLengths(row[1] + " percent of " + row[0], x, 1, row[2], 9);
            Check.due("the rest", x.told(1), row[0] - row[2]);
        }
    }

    /** "a share of the heap (1 .. 100 percent". */
    private static void leastAndMostPercent() {
        PieceTrace x = heapOf(5000);
        Check.due("1 percent", x.back(1, 9), 1);
        Check.weightsAndLengths("1 percent", x, 1, 50, 9);
        Check.due("100 percent", x.back(100, 9), 2);
        Check.weightsAndLengths("100 percent", x, 2, 4950, 9);
        Check.due("an empty heap", x.told(1), 0);
        for (int percent : Check.outside(1, 100)) {
            Check.refused("percent " + percent, Check.RANGE, Check::mixed, y -> y.back(percent, 9));
        }
    }

    /** "length (1 .. 1,000,000)". */
    private static void leastAndMostLength() {
        PieceTrace x = heapOf(100);
        Check.due("a millimetre", x.back(50, 1), 1);
        Check.weightsAndLengths("a millimetre", x, 1, 50, 1);
        Check.due("a kilometre", x.back(50, MOST), 2);
        Check.weightsAndLengths("a kilometre", x, 2, 25, MOST);
        for (int length : Check.outside(1, MOST)) {
            Check.refused("length " + length, Check.RANGE, Check::mixed, y -> y.back(50, length));
        }
    }

    /** "1 gram or more". */
    private static void aGram() {
        int[][] due = {{100, 1}, {2, 50}, {1, 100}, {51, 2}};
        for (int[] row : due) {
            PieceTrace x = heapOf(row[0]);
            Check.due("back", x.back(row[1], 1), 1);
            Check.weightsAndLengths(row[1] + " percent of " + row[0], x, 1, 1, 1);
        }
    }

    /** "meaning: less than a gram". */
    private static void lessThanAGram() {
        Check.refused("1 percent of 99", Check.MEANING, () -> heapOf(99), x -> x.back(1, 1));
        Check.refused("99 percent of 1", Check.MEANING, () -> heapOf(1), x -> x.back(99, 1));
        Check.refused("49 percent of 2", Check.MEANING, () -> heapOf(2), x -> x.back(49, 1));
    }

    private static void anEmptyHeap() {
        Check.refused("never filled", Check.MEANING, () -> Check.filledTo(1), x -> x.back(100, 1));
        Check.refused("emptied", Check.MEANING, Promise09BackTest::emptied, x -> x.back(100, 1));
    }

    /** The heap times a percentage is far above an int, and a melt from it above 1,000,000. */
    private static void largeHeap() {
        PieceTrace x = new PieceTrace();
        for (int i = 0; i < 39; i++) {
            x.melt(MOST, 1);
            x.scrap(i);
        }
        x.back(99, 1);
        Check.weightsAndLengths("a heavy one", x, 39, 38_610_000, 1);
        Check.due("the heap", x.told(1), 390_000);
    }

    /** "or there are 40". */
    private static void roomForOne() {
        PieceTrace x = Check.filledTo(39);
        x.scrap(0);
        Check.due("the 40th piece", x.back(50, 5), 39);
        Check.weightsAndLengths("the 40th piece", x, 39, 500, 5);
        Check.refused("a 41st", Check.MEANING, Promise09BackTest::fullWithHeap, y -> y.back(50, 1));
        Check.refused("no room, no heap", Check.MEANING, () -> Check.filledTo(40), y -> y.back(50, 1));
    }

    private static void rangeAheadOfMeaning() {
        for (int percent : Check.outside(1, 100)) {
            Check.refused("percent ahead of heap", Check.RANGE, PieceTrace::new, x -> x.back(percent, 1));
            Check.refused("percent ahead of room", Check.RANGE, Promise09BackTest::fullWithHeap, x -> x.back(percent, 1));
        }
        for (int length : Check.outside(1, MOST)) {
            Check.refused("length ahead of heap", Check.RANGE, PieceTrace::new, x -> x.back(100, length));
            Check.refused("length ahead of room", Check.RANGE, Promise09BackTest::fullWithHeap, x -> x.back(100, length));
        }
    }

    private static PieceTrace heapOf(int weight) {
        PieceTrace x = Check.oneMelt(weight, 10);
        x.scrap(0);
        return x;
    }

    private static PieceTrace emptied() {
        PieceTrace x = heapOf(5);
        x.back(100, 1);
        return x;
    }

    private static PieceTrace fullWithHeap() {
        PieceTrace x = Check.filledTo(40);
        x.scrap(0);
        return x;
    }
}

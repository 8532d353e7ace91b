/** Promise 11: origin. */
public final class Promise11OriginTest {
    public static void main(String[] args) {
        throughAll();
        lowestTerms();
        wholeAgain();
        largeNumbers();
        longestWay();
        refusals();
        Check.end();
    }

    private static void throughAll() {
        PieceTrace x = new PieceTrace();
        x.melt(1000, 300);
        x.melt(999, 100);
        Check.originIs(x, 0, 0, 0, 0, 1);
        Check.originIs(x, 1, 99, 1, 99, 1);
        x.cut(0, 100);
        Check.originIs(x, 2, 99, 0, 99, 1);
        Check.originIs(x, 3, 0, 0, 100, 1);
        Check.originIs(x, 3, 199, 0, 299, 1);
        x.weld(3, 1);
        Check.originIs(x, 4, 199, 0, 299, 1);
        Check.originIs(x, 4, 200, 1, 0, 1);
        Check.originIs(x, 4, 299, 1, 99, 1);
        x.roll(4, 7, 3);
        Check.originIs(x, 5, 100, 0, 1000, 7);
        Check.originIs(x, 5, 466, 0, 2098, 7);
        Check.originIs(x, 5, 467, 1, 1, 7);
        Check.originIs(x, 5, 699, 1, 697, 7);
        x.slit(5, 3);
        Check.originIs(x, 6, 100, 0, 1000, 7);
        Check.originIs(x, 8, 699, 1, 697, 7);
        x.scrap(8);
        Check.originIs(x, 8, 699, 1, 697, 7);
    }

    private static void lowestTerms() {
        PieceTrace x = new PieceTrace();
        x.melt(1, 100);
        x.roll(0, 12, 8);
        Check.originIs(x, 1, 0, 0, 0, 1);
        Check.originIs(x, 1, 3, 0, 2, 1);
        Check.originIs(x, 1, 4, 0, 8, 3);
        x.cut(1, 31);
        Check.originIs(x, 3, 0, 0, 62, 3);
        Check.originIs(x, 3, 2, 0, 22, 1);
        x.roll(3, 9, 4);
        Check.originIs(x, 4, 6, 0, 202, 9);
    }

    /** A fraction of a weld may fall just below the seam, or on it. */
    private static void wholeAgain() {
        PieceTrace x = new PieceTrace();
        x.melt(1, 5);
        x.melt(1, 5);
        x.weld(0, 1);
        x.roll(2, 20, 19);
        Check.originIs(x, 3, 5, 0, 19, 4);
        Check.originIs(x, 3, 6, 1, 7, 10);
        PieceTrace y = new PieceTrace();
        y.melt(1, 6);
        y.melt(1, 5);
        y.weld(0, 1);
        y.roll(2, 3, 2);
        Check.originIs(y, 3, 8, 0, 16, 3);
        Check.originIs(y, 3, 9, 1, 0, 1);
    }

    private static void largeNumbers() {
        PieceTrace x = new PieceTrace();
        x.melt(1, 999_999);
        x.roll(0, 19, 2);
        x.roll(1, 19, 3);
        x.roll(2, 13, 1);
        Check.due("length", x.at(3, 1), 782_165_839);
        Check.originIs(x, 3, 782_165_838, 0, 4_692_995_028L, 4693);
    }

    private static void longestWay() {
        PieceTrace x = new PieceTrace();
        x.melt(1000, 1000);
        int last = 0;
        for (int i = 0; i < 19; i++) {
            last = x.cut(last, 1) + 1;
        }
        Check.due("the last part", last, 38);
        Check.originIs(x, 38, 3, 0, 22, 1);
        Check.due("the 40th piece", x.roll(38, 2, 1), 39);
        Check.originIs(x, 39, 3, 0, 41, 2);
    }

    private static void refusals() {
        for (int piece : Check.NOT_IN_MIXED) {
            Check.refused("no piece " + piece, Check.INDEX, Check::mixed, x -> x.origin(piece, -1, 0));
        }
        int[] parts = {-1, 3, Integer.MIN_VALUE, Integer.MAX_VALUE};
        for (int part : parts) {
            Check.refused("no part " + part, Check.INDEX, Check::mixed, x -> x.origin(4, -1, part));
        }
        int[] places = {-1, 7, 8, Integer.MIN_VALUE, Integer.MAX_VALUE};
        for (int place : places) {
            Check.refused("place " + place, Check.RANGE, Check::mixed, x -> x.origin(4, place, 0));
        }
    }
}

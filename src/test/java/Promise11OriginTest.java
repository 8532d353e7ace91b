/** Promise 11: origin. */
public final class Promise11OriginTest {
    public static void main(String[] args) {
        throughAll();
        zeroIsZeroOverOne();
        lowestTerms();
        partsOfACut();
        seamOfAWeld();
        lastPlaceOfARoll();
        largeNumbers();
        longestWay();
        firstAndLastPlace();
        noSuchPiece();
        noSuchPart();
        placesThatAreRefused();
        indexAheadOfRange();
        Check.end();
    }

    private static void throughAll() {
        PieceTrace x = new PieceTrace();
        x.melt(1000, 300);
        x.melt(999, 100);
        Check.originIs(x, 0, 0, 0, 0, 1);
        Check.originIs(x, 1, 99, 1, 99, 1);
        x.cut(0, 100);
        x.weld(3, 1);
        x.roll(4, 7, 3);
        Check.originIs(x, 5, 100, 0, 1000, 7);
        Check.originIs(x, 5, 466, 0, 2098, 7);
        Check.originIs(x, 5, 467, 1, 1, 7);
        Check.originIs(x, 5, 699, 1, 697, 7);
        x.slit(5, 3);
        Check.originIs(x, 6, 100, 0, 1000, 7);
        Check.originIs(x, 8, 699, 1, 697, 7);
        x.hold(6, true);
        Check.originIs(x, 6, 100, 0, 1000, 7);
        x.scrap(8);
        Check.originIs(x, 8, 699, 1, 697, 7);
        x.back(100, 5);
        Check.originIs(x, 9, 4, 9, 4, 1);
    }

    /** "an upper number (0 or more) and a lower one (above 0)". */
    private static void zeroIsZeroOverOne() {
        PieceTrace x = Check.oneMelt(1, 100);
        Check.originIs(x, 0, 0, 0, 0, 1);
        x.roll(0, 7, 20);
        Check.originIs(x, 1, 0, 0, 0, 1);
        x.roll(1, 13, 6);
        x.roll(2, 11, 9);
        Check.originIs(x, 3, 0, 0, 0, 1);
    }

    /** "Fractions are told in lowest terms". */
    private static void lowestTerms() {
        PieceTrace x = Check.oneMelt(1, 100);
        x.roll(0, 12, 8);
        Check.originIs(x, 1, 1, 0, 2, 3);
        Check.originIs(x, 1, 3, 0, 2, 1);
        Check.originIs(x, 1, 4, 0, 8, 3);
        x.cut(1, 31);
        Check.originIs(x, 3, 0, 0, 62, 3);
        Check.originIs(x, 3, 2, 0, 22, 1);
        x.roll(3, 9, 4);
        Check.originIs(x, 4, 6, 0, 202, 9);
        PieceTrace y = Check.oneMelt(1, 100);
        y.roll(0, 3, 2);
        y.roll(1, 2, 3);
        Check.originIs(y, 2, 99, 0, 99, 1);
    }

    /** The first has places below p, the second the others (each less p). */
    private static void partsOfACut() {
        PieceTrace x = Check.oneMelt(1000, 300);
        x.cut(0, 100);
        Check.originIs(x, 1, 0, 0, 0, 1);
        Check.originIs(x, 1, 99, 0, 99, 1);
        Check.originIs(x, 2, 0, 0, 100, 1);
        Check.originIs(x, 2, 199, 0, 299, 1);
    }

    /** Places of the first one, then those of the second one: whole ones and fractions at the seam. */
    private static void seamOfAWeld() {
        PieceTrace x = welded(5, 5);
        Check.originIs(x, 2, 4, 0, 4, 1);
        Check.originIs(x, 2, 5, 1, 0, 1);
        Check.originIs(x, 2, 9, 1, 4, 1);
        x.roll(2, 20, 19);
        Check.originIs(x, 3, 5, 0, 19, 4);
        Check.originIs(x, 3, 6, 1, 7, 10);
        PieceTrace y = welded(6, 5);
        y.roll(2, 3, 2);
        Check.originIs(y, 3, 8, 0, 16, 3);
        Check.originIs(y, 3, 9, 1, 0, 1);
    }

    /** 10 times 3 / 4 is 7, rounded down: the last place is 6. */
    private static void lastPlaceOfARoll() {
        PieceTrace x = Check.oneMelt(1, 10);
        x.roll(0, 3, 4);
        Check.originIs(x, 1, 6, 0, 8, 1);
        Check.due("place 7", Check.answer(x, y -> y.origin(1, 7, 0)), "throws.IllegalArgumentException");
    }

    private static void largeNumbers() {
        PieceTrace x = Check.oneMelt(1, 999_999);
        x.roll(0, 19, 2);
        x.roll(1, 19, 3);
        x.roll(2, 13, 1);
        Check.due("length", x.at(3, 1), 782_165_839);
        Check.originIs(x, 3, 782_165_838, 0, 4_692_995_028L, 4693);
    }

    private static void longestWay() {
        PieceTrace x = Check.filledTo(1);
        int last = 0;
        for (int i = 0; i < 19; i++) {
            last = x.cut(last, 1) + 1;
        }
        Check.due("the last part", last, 38);
        Check.originIs(x, 38, 3, 0, 22, 1);
        Check.due("the 40th piece", x.roll(38, 2, 1), 39);
        Check.originIs(x, 39, 3, 0, 41, 2);
        PieceTrace y = Check.filledTo(20);
        int weld = 0;
        for (int melt = 1; melt < 20; melt++) {
            weld = y.weld(weld, melt);
        }
        Check.originIs(y, weld, 0, 0, 0, 1);
        Check.originIs(y, weld, 19_999, 19, 999, 1);
    }

    private static void firstAndLastPlace() {
        PieceTrace x = Check.mixed();
        Check.originIs(x, Check.FREE, 0, 4, 0, 1);
        Check.originIs(x, Check.FREE, Check.FREE_LENGTH - 1, 4, 6, 1);
        Check.originIs(Check.oneMelt(5, 1), 0, 0, 0, 0, 1);
    }

    /** "Index: no such piece". */
    private static void noSuchPiece() {
        for (int piece : Check.NOT_IN_MIXED) {
            Check.refused("no piece " + piece, Check.INDEX, Check::mixed, x -> x.origin(piece, 0, 0));
        }
        for (int piece : Check.NOT_IN_FULL) {
            Check.refused("no piece " + piece, Check.INDEX, Check::fullMixed, x -> x.origin(piece, 0, 0));
        }
    }

    /** "or part": 0, 1 and 2 are taken. */
    private static void noSuchPart() {
        for (int part : Check.outside(0, 2)) {
            Check.refused("no part " + part, Check.INDEX, Check::mixed, x -> x.origin(Check.FREE, 0, part));
        }
    }

    /** "range: the place is not below its length, or below 0". */
    private static void placesThatAreRefused() {
        for (int part = 0; part <= 2; part++) {
            int asked = part;
            for (int place : Check.outside(0, Check.FREE_LENGTH - 1)) {
                Check.refused("place " + place, Check.RANGE, Check::mixed, x -> x.origin(Check.FREE, place, asked));
            }
        }
        for (int place : Check.outside(0, 0)) {
            Check.refused("of a millimetre", Check.RANGE, () -> Check.oneMelt(5, 1), x -> x.origin(0, place, 0));
        }
    }

    private static void indexAheadOfRange() {
        for (int piece : Check.NOT_IN_MIXED) {
            Check.refused("no piece " + piece, Check.INDEX, Check::mixed, x -> x.origin(piece, -1, 0));
        }
        for (int part : Check.outside(0, 2)) {
            Check.refused("no part " + part, Check.INDEX, Check::mixed, x -> x.origin(Check.FREE, -1, part));
            Check.refused("no part " + part, Check.INDEX, Check::mixed, x -> x.origin(Check.FREE, 7, part));
        }
    }

    private static PieceTrace welded(int firstLength, int secondLength) {
        PieceTrace x = Check.oneMelt(1, firstLength);
        x.melt(1, secondLength);
        x.weld(0, 1);
        return x;
    }
}

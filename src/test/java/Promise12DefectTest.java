/** Promise 12: defect. */
public final class Promise12DefectTest {
    public static void main(String[] args) {
        ordinary();
        theSameTwice();
        toldAtAnyPiece();
        firstAndLastPlace();
        placesThatAreRefused();
        noSuchPiece();
        roomForTen();
        piecesAndDefectsAreApart();
        orderOfChecks();
        Check.end();
    }

    /** "a melt and a place of it (a fraction): that which a place of a piece .. came from". */
    private static void ordinary() {
        PieceTrace x = new PieceTrace();
        x.melt(1000, 300);
        x.melt(999, 100);
        x.cut(0, 100);
        x.weld(3, 1);
        x.roll(4, 7, 3);
        Check.due("first defect", x.defect(5, 100), 0);
        Check.due("second defect", x.defect(5, 500), 1);
        Check.hasAt(x, 0, 0, 1000, 7);
        Check.hasNot(x, 0, 1);
        Check.hasNot(x, 1, 0);
        Check.hasAt(x, 1, 1, 100, 7);
        Check.hasAt(x, 1, 5, 500, 1);
        x.slit(5, 2);
        Check.hasAt(x, 0, 7, 100, 1);
    }

    private static void theSameTwice() {
        PieceTrace x = Check.filledTo(1);
        Check.due("first", x.defect(0, 5), 0);
        Check.due("the same again", x.defect(0, 5), 1);
        Check.hasAt(x, 0, 0, 5, 1);
        Check.hasAt(x, 1, 0, 5, 1);
    }

    /** No turn is named: used, scrap and held pieces tell defects as well. */
    private static void toldAtAnyPiece() {
        PieceTrace x = Check.mixed();
        Check.due("at a used one", x.defect(Check.USED, 299), 1);
        Check.hasAt(x, 1, 2, 199, 1);
        Check.due("at scrap", x.defect(Check.SCRAP, 0), 2);
        Check.hasAt(x, 2, 0, 100, 1);
        Check.due("at a held one", x.defect(Check.HELD, 39), 3);
        Check.hasAt(x, 3, 3, 39, 1);
    }

    private static void firstAndLastPlace() {
        PieceTrace x = Check.mixed();
        Check.due("at 0", x.defect(Check.FREE, 0), 1);
        Check.due("at the last", x.defect(Check.FREE, Check.FREE_LENGTH - 1), 2);
        Check.hasAt(x, 1, Check.FREE, 0, 1);
        Check.hasAt(x, 2, Check.FREE, 6, 1);
        PieceTrace y = Check.oneMelt(5, 1);
        Check.due("of a millimetre", y.defect(0, 0), 0);
    }

    /** "range: the place". */
    private static void placesThatAreRefused() {
        for (int place : Check.outside(0, Check.FREE_LENGTH - 1)) {
            Check.refused("place " + place, Check.RANGE, Check::mixed, x -> x.defect(Check.FREE, place));
        }
        for (int place : Check.outside(0, 0)) {
            Check.refused("of a millimetre", Check.RANGE, () -> Check.oneMelt(5, 1), x -> x.defect(0, place));
        }
    }

    /** "Index: no such piece". */
    private static void noSuchPiece() {
        for (int piece : Check.NOT_IN_MIXED) {
            Check.refused("no piece " + piece, Check.INDEX, Check::mixed, x -> x.defect(piece, 0));
        }
        for (int piece : Check.NOT_IN_FULL) {
            Check.refused("no piece " + piece, Check.INDEX, Check::fullMixed, x -> x.defect(piece, 0));
        }
    }

    /** "(at most 10)"; "meaning: there are 10". */
    private static void roomForTen() {
        PieceTrace x = defects(9);
        Check.due("the 10th", x.defect(1, 999), 9);
        Check.hasAt(x, 9, 1, 999, 1);
        for (int defect = 0; defect < 9; defect++) {
            Check.hasAt(x, defect, 0, defect, 1);
        }
        Check.refused("an 11th", Check.MEANING, () -> defects(10), y -> y.defect(0, 0));
        Check.refused("an 11th at another", Check.MEANING, () -> defects(10), y -> y.defect(1, 0));
    }

    private static void piecesAndDefectsAreApart() {
        PieceTrace x = Check.filledTo(40);
        for (int defect = 0; defect < 10; defect++) {
            Check.due("in a full object", x.defect(39, defect), defect);
        }
        PieceTrace y = defects(10);
        Check.due("a piece beside ten defects", y.melt(1, 1), 2);
        Check.hasNot(y, 0, 2);
    }

    private static void orderOfChecks() {
        for (int piece : Check.NOT_IN_MIXED) {
            Check.refused("index ahead of range", Check.INDEX, Check::mixed, x -> x.defect(piece, -1));
        }
        for (int piece : new int[] {-1, 2, 40, Integer.MIN_VALUE, Integer.MAX_VALUE}) {
            Check.refused("index ahead of meaning", Check.INDEX, () -> defects(10), x -> x.defect(piece, 0));
            Check.refused("index ahead of both", Check.INDEX, () -> defects(10), x -> x.defect(piece, -1));
        }
        for (int place : Check.outside(0, 999)) {
            Check.refused("range ahead of meaning", Check.RANGE, () -> defects(10), x -> x.defect(0, place));
        }
    }

    private static PieceTrace defects(int count) {
        PieceTrace x = Check.filledTo(2);
        for (int i = 0; i < count; i++) {
            x.defect(0, i);
        }
        return x;
    }
}

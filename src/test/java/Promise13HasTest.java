/** Promise 13: has. */
public final class Promise13HasTest {
    public static void main(String[] args) {
        melts();
        cuts();
        cutsOfFractions();
        welds();
        rolls();
        rollsLose();
        slits();
        weldOfSlits();
        toldBehindAndHadAhead();
        lowestTerms();
        zeroIsZeroOverOne();
        largeNumbers();
        manyWelds();
        noSuchDefect();
        noSuchPiece();
        noSuchPart();
        Check.end();
    }

    /** "a melt has its own at its place", and no other's; one from the heap is another. */
    private static void melts() {
        PieceTrace x = Check.filledTo(2);
        x.defect(1, 7);
        Check.hasNot(x, 0, 0);
        Check.hasAt(x, 0, 1, 7, 1);
        x.scrap(1);
        Check.hasAt(x, 0, 1, 7, 1);
        x.back(100, 1000);
        Check.hasNot(x, 0, 2);
    }

    /** "the first part of a cut has it .. if that is below p, the second where it is not, less p". */
    private static void cuts() {
        PieceTrace x = Check.filledTo(1);
        x.defect(0, 99);
        x.defect(0, 100);
        x.defect(0, 0);
        x.cut(0, 100);
        Check.hasAt(x, 0, 1, 99, 1);
        Check.hasNot(x, 0, 2);
        Check.hasNot(x, 1, 1);
        Check.hasAt(x, 1, 2, 0, 1);
        Check.hasAt(x, 2, 1, 0, 1);
        Check.hasNot(x, 2, 2);
    }

    /** Defects at 5 1/3 and 4 2/3 of a melt, cut at 5. */
    private static void cutsOfFractions() {
        PieceTrace x = new PieceTrace();
        x.melt(4, 10);
        x.slit(0, 2);
        x.roll(1, 3, 1);
        x.defect(3, 16);
        x.defect(3, 14);
        x.cut(2, 5);
        Check.hasAt(x, 0, 0, 16, 3);
        Check.hasAt(x, 0, 5, 1, 3);
        Check.hasNot(x, 0, 4);
        Check.hasAt(x, 1, 4, 14, 3);
        Check.hasNot(x, 1, 5);
    }

    /** "a weld where its first one has it, else where its second one has it, and the first one's length". */
    private static void welds() {
        PieceTrace x = Check.filledTo(3);
        x.defect(0, 5);
        x.defect(1, 6);
        x.defect(2, 7);
        x.weld(1, 0);
        Check.hasAt(x, 0, 3, 1005, 1);
        Check.hasAt(x, 1, 3, 6, 1);
        Check.hasNot(x, 2, 3);
        x.weld(2, 3);
        Check.hasAt(x, 0, 4, 2005, 1);
        Check.hasAt(x, 1, 4, 1006, 1);
        Check.hasAt(x, 2, 4, 7, 1);
    }

    /** "a rolled one where the one ahead has it, times a / b". */
    private static void rolls() {
        PieceTrace x = Check.filledTo(1);
        x.defect(0, 5);
        x.defect(0, 6);
        x.defect(0, 0);
        x.roll(0, 7, 3);
        Check.hasAt(x, 0, 1, 35, 3);
        Check.hasAt(x, 1, 1, 14, 1);
        Check.hasAt(x, 2, 1, 0, 1);
        x.roll(1, 9, 14);
        Check.hasAt(x, 0, 2, 15, 2);
        Check.hasAt(x, 1, 2, 9, 1);
    }

    /** "if that is below its length": 10 times 3 / 4 is 7, rounded down; 9 is at 6 3/4, and 9 1/3 at 7, not below it. */
    private static void rollsLose() {
        PieceTrace x = new PieceTrace();
        x.melt(4, 10);
        x.slit(0, 2);
        x.roll(1, 3, 1);
        x.defect(2, 9);
        x.defect(3, 28);
        x.defect(3, 29);
        x.roll(2, 3, 4);
        Check.due("length", x.at(4, 1), 7);
        Check.hasAt(x, 0, 4, 27, 4);
        Check.hasNot(x, 1, 4);
        Check.hasNot(x, 2, 4);
        Check.hasAt(x, 1, 2, 28, 3);
        x.roll(4, 2, 1);
        Check.hasAt(x, 0, 5, 27, 2);
        Check.hasNot(x, 2, 5);
    }

    /** "a slit one where the whole has it". */
    private static void slits() {
        PieceTrace x = Check.filledTo(1);
        x.defect(0, 5);
        x.slit(0, 4);
        for (int piece = 0; piece <= 4; piece++) {
            Check.hasAt(x, 0, piece, 5, 1);
        }
    }

    /** A weld has it where its first one does, and only there: a cut behind it leaves none for the second part. */
    private static void weldOfSlits() {
        PieceTrace x = Check.filledTo(1);
        x.defect(0, 5);
        x.slit(0, 2);
        x.cut(1, 3);
        x.weld(3, 2);
        Check.hasAt(x, 0, 5, 8, 1);
        x.cut(5, 9);
        Check.hasAt(x, 0, 6, 8, 1);
        Check.hasNot(x, 0, 7);
        PieceTrace y = Check.filledTo(1);
        y.defect(0, 5);
        y.slit(0, 2);
        y.weld(1, 2);
        y.cut(3, 1000);
        Check.hasAt(y, 0, 4, 5, 1);
        Check.hasNot(y, 0, 5);
    }

    /** A place that a roll lost is still had by the one ahead, and by what else was made of that. */
    private static void toldBehindAndHadAhead() {
        PieceTrace x = Check.oneMelt(4, 10);
        x.slit(0, 2);
        x.roll(1, 3, 4);
        x.defect(2, 9);
        Check.hasAt(x, 0, 0, 9, 1);
        Check.hasAt(x, 0, 1, 9, 1);
        Check.hasAt(x, 0, 3, 27, 4);
        x.roll(2, 1, 6);
        Check.hasNot(x, 0, 4);
        Check.hasAt(x, 0, 2, 9, 1);
        x.weld(4, 3);
        Check.hasAt(x, 0, 5, 31, 4);
    }

    /** "Fractions are told in lowest terms". */
    private static void lowestTerms() {
        PieceTrace x = Check.oneMelt(1, 100);
        x.defect(0, 6);
        x.defect(0, 7);
        x.roll(0, 10, 4);
        Check.hasAt(x, 0, 1, 15, 1);
        Check.hasAt(x, 1, 1, 35, 2);
        x.roll(1, 6, 15);
        Check.hasAt(x, 0, 2, 6, 1);
        Check.hasAt(x, 1, 2, 7, 1);
        x.roll(2, 2, 12);
        Check.hasAt(x, 0, 3, 1, 1);
        Check.hasAt(x, 1, 3, 7, 6);
        x.cut(3, 1);
        Check.hasAt(x, 0, 5, 0, 1);
        Check.hasAt(x, 1, 5, 1, 6);
    }

    /** A place 0 is had: it is not "-1: it has it not". */
    private static void zeroIsZeroOverOne() {
        PieceTrace x = Check.filledTo(1);
        x.defect(0, 0);
        x.defect(0, 500);
        x.roll(0, 7, 20);
        Check.hasAt(x, 0, 1, 0, 1);
        x.cut(1, 175);
        Check.hasAt(x, 1, 3, 0, 1);
        x.slit(3, 2);
        Check.hasAt(x, 1, 5, 0, 1);
        Check.due("it is recalled", x.recall(1, 1), 5);
    }

    /** Three rolls backward and three forward: lower numbers up to 6,859 * 4,913. */
    private static void largeNumbers() {
        PieceTrace x = new PieceTrace();
        x.melt(4, 1_000_000);
        x.slit(0, 2);
        x.roll(1, 19, 17);
        x.roll(3, 19, 17);
        x.roll(4, 19, 17);
        x.roll(2, 20, 17);
        x.roll(6, 20, 17);
        x.roll(7, 20, 17);
        x.defect(5, 1_234_567);
        Check.hasAt(x, 0, 0, 1_234_567L * 4913, 6859);
        Check.hasAt(x, 0, 5, 1_234_567, 1);
        Check.hasAt(x, 0, 6, 1_234_567L * 289 * 20, 6859);
        Check.hasAt(x, 0, 8, 1_234_567L * 8000, 6859);
        PieceTrace y = new PieceTrace();
        y.melt(4, 1_000_000);
        y.slit(0, 2);
        y.roll(1, 19, 1);
        y.roll(3, 19, 1);
        y.roll(4, 19, 7);
        y.roll(2, 20, 17);
        y.roll(6, 20, 17);
        y.roll(7, 20, 17);
        y.defect(5, 979_000_001);
        Check.hasAt(y, 0, 8, 979_000_001L * 7 * 8000, 6859L * 4913);
    }

    /** Each weld of two slits of the weld ahead doubles the ways; the answer still comes at once. */
    private static void manyWelds() {
        PieceTrace x = new PieceTrace();
        x.melt(1_000_000, 10);
        x.melt(1, 10);
        x.defect(1, 5);
        int last = 0;
        for (int i = 0; i < 12; i++) {
            int slit = x.slit(last, 2);
            last = x.weld(slit, slit + 1);
        }
        Check.due("pieces", last, 37);
        Check.hasNot(x, 0, last);
        x.weld(last, 1);
        Check.hasAt(x, 0, 38, 40_965, 1);
    }

    /** "Index: no such defect". */
    private static void noSuchDefect() {
        for (int defect : new int[] {-1, 1, 10, Integer.MIN_VALUE, Integer.MAX_VALUE}) {
            Check.refused("no defect " + defect, Check.INDEX, Check::mixed, x -> x.has(defect, 0, 0));
        }
        for (int defect : Check.outside(0, 9)) {
            Check.refused("none of ten " + defect, Check.INDEX, Promise13HasTest::tenDefects, x -> x.has(defect, 0, 0));
        }
        Check.hasAt(tenDefects(), 9, 0, 9, 1);
        Check.refused("none told yet", Check.INDEX, () -> Check.filledTo(1), x -> x.has(0, 0, 0));
    }

    /** "piece". */
    private static void noSuchPiece() {
        for (int piece : Check.NOT_IN_MIXED) {
            Check.refused("no piece " + piece, Check.INDEX, Check::mixed, x -> x.has(0, piece, 0));
        }
        for (int piece : Check.NOT_IN_FULL) {
            Check.refused("no piece " + piece, Check.INDEX, Check::fullMixed, x -> x.has(0, piece, 1));
        }
        Check.hasNot(Check.fullMixed(), 0, 39);
    }

    /** "or part": 0 and 1 are taken, whether the piece has it or not. */
    private static void noSuchPart() {
        for (int part : Check.outside(0, 1)) {
            Check.refused("no part " + part, Check.INDEX, Check::mixed, x -> x.has(0, 1, part));
            Check.refused("no part " + part, Check.INDEX, Check::mixed, x -> x.has(0, Check.FREE, part));
        }
    }

    private static PieceTrace tenDefects() {
        PieceTrace x = Check.filledTo(1);
        for (int i = 0; i < 10; i++) {
            x.defect(0, i);
        }
        return x;
    }
}

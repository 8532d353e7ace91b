/** Promise 13: has. */
public final class Promise13HasTest {
    public static void main(String[] args) {
        melts();
        cuts();
        cutsOfFractions();
        welds();
        rolls();
        rollsLose();
        slits();
        weldOfSlits();
        largeNumbers();
        manyWelds();
        refusals();
        Check.end();
    }

    private static void melts() {
        PieceTrace x = Check.filledTo(2);
        x.defect(1, 7);
        Check.hasNot(x, 0, 0);
        Check.hasAt(x, 0, 1, 7, 1);
        x.scrap(1);
        Check.hasAt(x, 0, 1, 7, 1);
        x.back(100, 1000);
        Check.hasNot(x, 0, 2);
    }

    private static void cuts() {
        PieceTrace x = Check.filledTo(1);
        x.defect(0, 99);
        x.defect(0, 100);
        x.defect(0, 0);
        x.cut(0, 100);
        Check.hasAt(x, 0, 1, 99, 1);
        Check.hasNot(x, 0, 2);
        Check.hasNot(x, 1, 1);
        Check.hasAt(x, 1, 2, 0, 1);
        Check.hasAt(x, 2, 1, 0, 1);
        Check.hasNot(x, 2, 2);
    }

    /** Defects at 5 1/3 and 4 2/3 of a melt, cut at 5. */
    private static void cutsOfFractions() {
        PieceTrace x = new PieceTrace();
        x.melt(4, 10);
        x.slit(0, 2);
        x.roll(1, 3, 1);
        x.defect(3, 16);
        x.defect(3, 14);
        x.cut(2, 5);
        Check.hasAt(x, 0, 0, 16, 3);
        Check.hasAt(x, 0, 5, 1, 3);
        Check.hasNot(x, 0, 4);
        Check.hasAt(x, 1, 4, 14, 3);
        Check.hasNot(x, 1, 5);
    }

    private static void welds() {
        PieceTrace x = Check.filledTo(3);
        x.defect(0, 5);
        x.defect(1, 6);
        x.defect(2, 7);
        x.weld(1, 0);
        Check.hasAt(x, 0, 3, 1005, 1);
        Check.hasAt(x, 1, 3, 6, 1);
        Check.hasNot(x, 2, 3);
        x.weld(2, 3);
        Check.hasAt(x, 0, 4, 2005, 1);
        Check.hasAt(x, 1, 4, 1006, 1);
        Check.hasAt(x, 2, 4, 7, 1);
    }

    private static void rolls() {
        PieceTrace x = Check.filledTo(1);
        x.defect(0, 5);
        x.defect(0, 6);
        x.defect(0, 0);
        x.roll(0, 7, 3);
        Check.hasAt(x, 0, 1, 35, 3);
        Check.hasAt(x, 1, 1, 14, 1);
        Check.hasAt(x, 2, 1, 0, 1);
        x.roll(1, 9, 14);
        Check.hasAt(x, 0, 2, 15, 2);
        Check.hasAt(x, 1, 2, 9, 1);
    }

    /** 10 times 3 / 4 is 7, rounded down: 9 is at 6 3/4, and 9 1/3 at 7, not below it. */
    private static void rollsLose() {
        PieceTrace x = new PieceTrace();
        x.melt(4, 10);
        x.slit(0, 2);
        x.roll(1, 3, 1);
        x.defect(2, 9);
        x.defect(3, 28);
        x.defect(3, 29);
        x.roll(2, 3, 4);
        Check.due("length", x.at(4, 1), 7);
        Check.hasAt(x, 0, 4, 27, 4);
        Check.hasNot(x, 1, 4);
        Check.hasNot(x, 2, 4);
        Check.hasAt(x, 1, 2, 28, 3);
        x.roll(4, 2, 1);
        Check.hasAt(x, 0, 5, 27, 2);
        Check.hasNot(x, 2, 5);
    }

    private static void slits() {
        PieceTrace x = Check.filledTo(1);
        x.defect(0, 5);
        x.slit(0, 4);
        for (int piece = 0; piece <= 4; piece++) {
            Check.hasAt(x, 0, piece, 5, 1);
        }
    }

    /** A weld has it where its first one does, and only there: a cut behind it leaves none for the second part. */
    private static void weldOfSlits() {
        PieceTrace x = Check.filledTo(1);
        x.defect(0, 5);
        x.slit(0, 2);
        x.cut(1, 3);
        x.weld(3, 2);
        Check.hasAt(x, 0, 5, 8, 1);
        x.cut(5, 9);
        Check.hasAt(x, 0, 6, 8, 1);
        Check.hasNot(x, 0, 7);
        PieceTrace y = Check.filledTo(1);
        y.defect(0, 5);
        y.slit(0, 2);
        y.weld(1, 2);
        y.cut(3, 1000);
        Check.hasAt(y, 0, 4, 5, 1);
        Check.hasNot(y, 0, 5);
    }

    /** Three rolls backward and three forward: lower numbers up to 6,859 * 4,913. */
    private static void largeNumbers() {
        PieceTrace x = new PieceTrace();
        x.melt(4, 1_000_000);
        x.slit(0, 2);
        x.roll(1, 19, 17);
        x.roll(3, 19, 17);
        x.roll(4, 19, 17);
        x.roll(2, 20, 17);
        x.roll(6, 20, 17);
        x.roll(7, 20, 17);
        x.defect(5, 1_234_567);
        Check.hasAt(x, 0, 0, 1_234_567L * 4913, 6859);
        Check.hasAt(x, 0, 5, 1_234_567, 1);
        Check.hasAt(x, 0, 6, 1_234_567L * 289 * 20, 6859);
        Check.hasAt(x, 0, 8, 1_234_567L * 8000, 6859);
        PieceTrace y = new PieceTrace();
        y.melt(4, 1_000_000);
        y.slit(0, 2);
        y.roll(1, 19, 1);
        y.roll(3, 19, 1);
        y.roll(4, 19, 7);
        y.roll(2, 20, 17);
        y.roll(6, 20, 17);
        y.roll(7, 20, 17);
        y.defect(5, 979_000_001);
        Check.hasAt(y, 0, 8, 979_000_001L * 7 * 8000, 6859L * 4913);
    }

    /** Each weld of two slits of the weld ahead doubles the ways; the answer still comes at once. */
    private static void manyWelds() {
        PieceTrace x = new PieceTrace();
        x.melt(1_000_000, 10);
        x.melt(1, 10);
        x.defect(1, 5);
        int last = 0;
        for (int i = 0; i < 12; i++) {
            int slit = x.slit(last, 2);
            last = x.weld(slit, slit + 1);
        }
        Check.due("pieces", last, 37);
        Check.hasNot(x, 0, last);
        x.weld(last, 1);
        Check.hasAt(x, 0, 38, 40_965, 1);
    }

    private static void refusals() {
        int[] none = {-1, 1, 10, Integer.MIN_VALUE, Integer.MAX_VALUE};
        for (int defect : none) {
            Check.refused("no defect " + defect, Check.INDEX, Check::mixed, x -> x.has(defect, 0, 0));
        }
        for (int piece : Check.NOT_IN_MIXED) {
            Check.refused("no piece " + piece, Check.INDEX, Check::mixed, x -> x.has(0, piece, 0));
        }
        int[] parts = {-1, 2, Integer.MIN_VALUE, Integer.MAX_VALUE};
        for (int part : parts) {
            Check.refused("no part " + part, Check.INDEX, Check::mixed, x -> x.has(0, 0, part));
        }
    }
}

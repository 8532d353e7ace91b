/** Promise 12: defect. */
public final class Promise12DefectTest {
    public static void main(String[] args) {
        ordinary();
        toldAtAnyPiece();
        edges();
        refusals();
        Check.end();
    }

    private static void ordinary() {
        PieceTrace x = new PieceTrace();
        x.melt(1000, 300);
        x.melt(999, 100);
        x.cut(0, 100);
        x.weld(3, 1);
        x.roll(4, 7, 3);
        Check.due("first defect", x.defect(5, 100), 0);
        Check.due("second defect", x.defect(5, 500), 1);
        Check.hasAt(x, 0, 0, 1000, 7);
        Check.hasNot(x, 0, 1);
        Check.hasNot(x, 1, 0);
        Check.hasAt(x, 1, 1, 100, 7);
        Check.hasAt(x, 1, 5, 500, 1);
        Check.due("the same again", x.defect(5, 100), 2);
        Check.hasAt(x, 2, 0, 1000, 7);
        x.slit(5, 2);
        Check.hasAt(x, 0, 7, 100, 1);
    }

    /** Used, scrap and held pieces tell defects as well. */
    private static void toldAtAnyPiece() {
        PieceTrace x = Check.mixed();
        Check.due("at a used one", x.defect(0, 299), 1);
        Check.hasAt(x, 1, 2, 199, 1);
        Check.due("at scrap", x.defect(2, 0), 2);
        Check.hasAt(x, 2, 0, 100, 1);
        Check.due("at a held one", x.defect(3, 39), 3);
        Check.hasAt(x, 3, 3, 39, 1);
    }

    private static void edges() {
        PieceTrace x = defects(9);
        Check.due("the 10th", x.defect(0, 999), 9);
        Check.hasAt(x, 9, 0, 999, 1);
        Check.hasAt(x, 0, 0, 0, 1);
        Check.hasAt(x, 8, 0, 8, 1);
    }

    private static void refusals() {
        for (int piece : Check.NOT_IN_MIXED) {
            Check.refused("no piece " + piece, Check.INDEX, Check::mixed, x -> x.defect(piece, -1));
        }
        int[] places = {-1, 7, 8, Integer.MIN_VALUE, Integer.MAX_VALUE};
        for (int place : places) {
            Check.refused("place " + place, Check.RANGE, Check::mixed, x -> x.defect(4, place));
        }
        Check.refused("an 11th", Check.MEANING, () -> defects(10), x -> x.defect(0, 0));
        Check.refused("range ahead of room", Check.RANGE, () -> defects(10), x -> x.defect(0, 1000));
    }

    private static PieceTrace defects(int count) {
        PieceTrace x = Check.filledTo(2);
        for (int i = 0; i < count; i++) {
            x.defect(0, i);
        }
        return x;
    }
}

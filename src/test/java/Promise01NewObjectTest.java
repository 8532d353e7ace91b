/** Promise 1: a new object. */
public final class Promise01NewObjectTest {
    public static void main(String[] args) {
        noPieces();
        noDefects();
        anEmptyHeap();
        theFirstNumbers();
        twoObjectsAreApart();
        Check.end();
    }

    /** "No pieces". */
    private static void noPieces() {
        for (int number : new int[] {0, -1, 39, 40}) {
            int piece = number;
            Check.refused("cut", Check.INDEX, PieceTrace::new, x -> x.cut(piece, 1));
            Check.refused("weld", Check.INDEX, PieceTrace::new, x -> x.weld(piece, piece + 1));
            Check.refused("roll", Check.INDEX, PieceTrace::new, x -> x.roll(piece, 1, 1));
            Check.refused("slit", Check.INDEX, PieceTrace::new, x -> x.slit(piece, 2));
            Check.refused("hold", Check.INDEX, PieceTrace::new, x -> x.hold(piece, true));
            Check.refused("let go", Check.INDEX, PieceTrace::new, x -> x.hold(piece, false));
            Check.refused("scrap", Check.INDEX, PieceTrace::new, x -> x.scrap(piece));
            Check.refused("at", Check.INDEX, PieceTrace::new, x -> x.at(piece, 0));
            Check.refused("origin", Check.INDEX, PieceTrace::new, x -> x.origin(piece, 0, 0));
            Check.refused("defect", Check.INDEX, PieceTrace::new, x -> x.defect(piece, 0));
        }
        Check.due("weight of all live pieces", new PieceTrace().told(0), 0);
        Check.due("weight of all melts", new PieceTrace().told(2), 0);
    }

    private static void noDefects() {
        for (int number : new int[] {0, -1, 9, 10}) {
            int defect = number;
            Check.refused("has", Check.INDEX, PieceTrace::new, x -> x.has(defect, 0, 0));
            Check.refused("recall", Check.INDEX, PieceTrace::new, x -> x.recall(defect, 0));
        }
    }

    /** "an empty heap". */
    private static void anEmptyHeap() {
        Check.due("the heap", new PieceTrace().told(1), 0);
        Check.refused("back", Check.MEANING, PieceTrace::new, x -> x.back(100, 1));
    }

    private static void theFirstNumbers() {
        PieceTrace x = new PieceTrace();
        Check.due("the first piece", x.melt(1, 1), 0);
        Check.due("the first defect", x.defect(0, 0), 0);
    }

    private static void twoObjectsAreApart() {
        PieceTrace one = new PieceTrace();
        PieceTrace other = new PieceTrace();
        one.melt(5, 5);
        one.defect(0, 0);
        one.scrap(0);
        Check.due("the other's heap", other.told(1), 0);
        Check.due("the other's melts", other.told(2), 0);
        Check.due("the other's first melt", other.melt(7, 7), 0);
        Check.due("the other's first defect", other.defect(0, 3), 0);
        Check.hasAt(one, 0, 0, 0, 1);
    }
}

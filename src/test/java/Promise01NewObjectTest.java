/** Promise 1: no pieces, an empty heap. */
public final class Promise01NewObjectTest {
    public static void main(String[] args) {
        PieceTrace x = new PieceTrace();
        for (int what = 0; what <= 2; what++) {
            Check.due("told of a new object", x.told(what), 0);
        }
        Check.refused("at", Check.INDEX, PieceTrace::new, y -> y.at(0, 0));
        Check.refused("cut", Check.INDEX, PieceTrace::new, y -> y.cut(0, 0));
        Check.refused("weld", Check.INDEX, PieceTrace::new, y -> y.weld(0, 1));
        Check.refused("roll", Check.INDEX, PieceTrace::new, y -> y.roll(0, 0, 0));
        Check.refused("slit", Check.INDEX, PieceTrace::new, y -> y.slit(0, 0));
        Check.refused("hold", Check.INDEX, PieceTrace::new, y -> y.hold(0, true));
        Check.refused("scrap", Check.INDEX, PieceTrace::new, y -> y.scrap(0));
        Check.refused("back", Check.MEANING, PieceTrace::new, y -> y.back(100, 1));
        Check.refused("origin", Check.INDEX, PieceTrace::new, y -> y.origin(0, 0, 0));
        Check.refused("defect", Check.INDEX, PieceTrace::new, y -> y.defect(0, 0));
        Check.refused("has", Check.INDEX, PieceTrace::new, y -> y.has(0, 0, 0));
        Check.refused("recall", Check.INDEX, PieceTrace::new, y -> y.recall(0, 0));
        twoObjectsAreApart();
        Check.end();
    }

    private static void twoObjectsAreApart() {
        PieceTrace one = new PieceTrace();
        PieceTrace other = new PieceTrace();
        one.melt(5, 5);
        one.scrap(0);
        Check.due("the other's heap", other.told(1), 0);
        Check.due("the other's first melt", other.melt(7, 7), 0);
    }
}

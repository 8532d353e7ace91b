/** Promise 8: scrap. */
public final class Promise08ScrapTest {
    public static void main(String[] args) {
        ordinary();
        refusals();
        Check.end();
    }

    private static void ordinary() {
        PieceTrace x = new PieceTrace();
        x.melt(1000, 300);
        x.melt(70, 7);
        x.melt(3, 3);
        x.slit(2, 4);
        Check.due("the heap", x.scrap(1), 70);
        Check.due("it is scrap", x.at(1, 2), 2);
        Check.due("not held", x.at(1, 3), 0);
        Check.weightsAndLengths("as it was", x, 1, 70, 7);
        Check.due("the heap told", x.told(1), 70);
        Check.due("a sum", x.scrap(0), 1070);
        Check.due("one without weight", x.scrap(6), 1070);
        x.hold(3, true);
        x.hold(3, false);
        Check.due("one let go", x.scrap(3), 1073);
        Check.due("no piece was made", Check.answer(x, y -> y.at(7, 0)), "throws.IndexOutOfBoundsException");
    }

    private static void refusals() {
        for (int piece : Check.NOT_IN_MIXED) {
            Check.refused("no piece " + piece, Check.INDEX, Check::mixed, x -> x.scrap(piece));
        }
        for (int piece : Check.NOT_FREE_IN_MIXED) {
            Check.refused("not free", Check.TURN, Check::mixed, x -> x.scrap(piece));
        }
    }
}

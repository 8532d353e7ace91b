/** Promise 8: scrap. */
public final class Promise08ScrapTest {
    public static void main(String[] args) {
        theHeapIsTold();
        weightsAreAdded();
        oneWithoutWeight();
        noPieceIsMade();
        theLargestHeap();
        nothingIsMadeOfScrap();
        noSuchPiece();
        notLiveOrHeld();
        Check.end();
    }

    private static void theHeapIsTold() {
        PieceTrace x = Check.filledTo(1);
        x.melt(70, 7);
        Check.due("the heap", x.scrap(1), 70);
        Check.pieceIs(x, 1, 70, 7, 2, 0, -1, -1, 0);
        Check.pieceIs(x, 0, 1000, 1000, 0, 0, -1, -1, 0);
        Check.due("the heap told", x.told(1), 70);
        Check.due("what is live", x.told(0), 1000);
        Check.due("the melts as before", x.told(2), 1070);
    }

    /** "its weight is added to THE HEAP". */
    private static void weightsAreAdded() {
        PieceTrace x = Check.filledTo(3);
        Check.due("one", x.scrap(2), 1000);
        Check.due("two", x.scrap(0), 2000);
        x.back(25, 1);
        Check.due("after back", x.scrap(1), 2500);
        Check.due("one from the heap", x.scrap(3), 3000);
    }

    private static void oneWithoutWeight() {
        PieceTrace x = Check.oneMelt(3, 3);
        x.slit(0, 4);
        Check.due("an empty heap stays empty", x.scrap(4), 0);
        Check.due("it is scrap", x.at(4, 2), 2);
        Check.due("a gram and more", x.scrap(1), 3);
        Check.due("no more than that", x.scrap(2), 3);
    }

    private static void noPieceIsMade() {
        PieceTrace x = Check.filledTo(40);
        Check.due("in a full object", x.scrap(39), 1000);
        PieceTrace y = Check.filledTo(1);
        y.scrap(0);
        Check.due("the next number", y.melt(1, 1), 1);
    }

    private static void theLargestHeap() {
        PieceTrace x = new PieceTrace();
        for (int i = 0; i < 40; i++) {
            x.melt(1_000_000, 1);
        }
        for (int i = 0; i < 40; i++) {
            Check.due("heap", x.scrap(i), 1_000_000 * (i + 1));
        }
        Check.due("heap told", x.told(1), 40_000_000);
        Check.due("nothing is live", x.told(0), 0);
    }

    private static void nothingIsMadeOfScrap() {
        Check.refused("cut", Check.TURN, Check::mixed, x -> x.cut(Check.SCRAP, 1));
        Check.refused("weld", Check.TURN, Check::mixed, x -> x.weld(Check.SCRAP, Check.FREE));
        Check.refused("weld", Check.TURN, Check::mixed, x -> x.weld(Check.FREE, Check.SCRAP));
        Check.refused("roll", Check.TURN, Check::mixed, x -> x.roll(Check.SCRAP, 1, 1));
        Check.refused("slit", Check.TURN, Check::mixed, x -> x.slit(Check.SCRAP, 2));
        Check.refused("hold", Check.TURN, Check::mixed, x -> x.hold(Check.SCRAP, true));
    }

    /** "Index: no such piece". */
    private static void noSuchPiece() {
        for (int piece : Check.NOT_IN_MIXED) {
            Check.refused("no piece " + piece, Check.INDEX, Check::mixed, x -> x.scrap(piece));
        }
        for (int piece : Check.NOT_IN_FULL) {
            Check.refused("no piece " + piece, Check.INDEX, Check::fullMixed, x -> x.scrap(piece));
        }
    }

    /** "turn: it is not live, or held". */
    private static void notLiveOrHeld() {
        Check.refused("used", Check.TURN, Check::mixed, x -> x.scrap(Check.USED));
        Check.refused("scrap again", Check.TURN, Check::mixed, x -> x.scrap(Check.SCRAP));
        Check.refused("held", Check.TURN, Check::mixed, x -> x.scrap(Check.HELD));
        PieceTrace x = Check.mixed();
        x.hold(Check.HELD, false);
        Check.due("one let go", x.scrap(Check.HELD), 667 + 500);
    }
}

/** Promise 7: hold. */
public final class Promise07HoldTest {
    public static void main(String[] args) {
        holdsAndLetsGo();
        aHeldOneIsLive();
        nothingIsMadeOfAHeldOne();
        anyLivePieceCanBeHeld();
        noSuchPiece();
        notLive();
        itIsSo();
        roomIsNotAsked();
        Check.end();
    }

    private static void holdsAndLetsGo() {
        PieceTrace x = Check.filledTo(2);
        Check.due("not held at first", x.at(1, 3), 0);
        x.hold(1, true);
        Check.due("held", x.at(1, 3), 1);
        Check.due("the other is not", x.at(0, 3), 0);
        x.hold(1, false);
        Check.due("let go", x.at(1, 3), 0);
        x.hold(1, true);
        Check.due("held again", x.at(1, 3), 1);
    }

    private static void aHeldOneIsLive() {
        PieceTrace x = Check.filledTo(2);
        x.defect(1, 5);
        x.hold(1, true);
        Check.pieceIs(x, 1, 1000, 1000, 0, 1, -1, -1, 0);
        Check.due("its weight is live", x.told(0), 2000);
        Check.due("it is recalled", x.recall(0, 0), 1);
    }

    /** "made of live pieces that are not HELD"; let go, each can be done. */
    private static void nothingIsMadeOfAHeldOne() {
        Check.refused("cut", Check.TURN, Promise07HoldTest::oneHeld, x -> x.cut(1, 1));
        Check.refused("weld", Check.TURN, Promise07HoldTest::oneHeld, x -> x.weld(1, 0));
        Check.refused("weld", Check.TURN, Promise07HoldTest::oneHeld, x -> x.weld(0, 1));
        Check.refused("roll", Check.TURN, Promise07HoldTest::oneHeld, x -> x.roll(1, 1, 1));
        Check.refused("slit", Check.TURN, Promise07HoldTest::oneHeld, x -> x.slit(1, 2));
        Check.refused("scrap", Check.TURN, Promise07HoldTest::oneHeld, x -> x.scrap(1));
        Check.due("cut", oneLetGo().cut(1, 1), 2);
        Check.due("weld", oneLetGo().weld(1, 0), 2);
        Check.due("roll", oneLetGo().roll(1, 1, 1), 2);
        Check.due("slit", oneLetGo().slit(1, 2), 2);
        Check.due("scrap", oneLetGo().scrap(1), 1000);
        PieceTrace x = oneLetGo();
        x.slit(1, 2);
        Check.due("a used one is not held", x.at(1, 3), 0);
        Check.due("nor are its slits", x.at(2, 3), 0);
    }

    private static void anyLivePieceCanBeHeld() {
        PieceTrace x = Check.filledTo(40);
        x.hold(0, true);
        x.hold(39, true);
        Check.due("the first", x.at(0, 3), 1);
        Check.due("the 40th", x.at(39, 3), 1);
        PieceTrace y = Check.oneMelt(1, 1);
        y.slit(0, 2);
        y.hold(2, true);
        Check.due("one without weight", y.at(2, 3), 1);
    }

    /** "Index: no such piece". */
    private static void noSuchPiece() {
        for (int piece : Check.NOT_IN_MIXED) {
            Check.refused("hold " + piece, Check.INDEX, Check::mixed, x -> x.hold(piece, true));
            Check.refused("let go " + piece, Check.INDEX, Check::mixed, x -> x.hold(piece, false));
        }
        for (int piece : Check.NOT_IN_FULL) {
            Check.refused("hold " + piece, Check.INDEX, Check::fullMixed, x -> x.hold(piece, true));
            Check.refused("let go " + piece, Check.INDEX, Check::fullMixed, x -> x.hold(piece, false));
        }
    }

    /** "turn: it is not live". */
    private static void notLive() {
        for (int piece : new int[] {Check.USED, Check.SCRAP}) {
            Check.refused("hold " + piece, Check.TURN, Check::mixed, x -> x.hold(piece, true));
            Check.refused("let go " + piece, Check.TURN, Check::mixed, x -> x.hold(piece, false));
        }
    }

    /** "or it is so". */
    private static void itIsSo() {
        Check.refused("held", Check.TURN, Check::mixed, x -> x.hold(Check.HELD, true));
        Check.refused("not held", Check.TURN, Check::mixed, x -> x.hold(Check.FREE, false));
        Check.refused("let go", Check.TURN, Promise07HoldTest::oneLetGo, x -> x.hold(1, false));
    }

    private static void roomIsNotAsked() {
        PieceTrace x = Check.fullMixed();
        x.hold(Check.FREE, true);
        x.hold(Check.HELD, false);
        Check.due("held", x.at(Check.FREE, 3), 1);
        Check.due("let go", x.at(Check.HELD, 3), 0);
    }

    private static PieceTrace oneHeld() {
        PieceTrace x = Check.filledTo(2);
        x.hold(1, true);
        return x;
    }

    private static PieceTrace oneLetGo() {
        PieceTrace x = oneHeld();
        x.hold(1, false);
        return x;
    }
}

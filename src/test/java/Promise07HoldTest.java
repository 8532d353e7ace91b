/** Promise 7: hold. */
public final class Promise07HoldTest {
    public static void main(String[] args) {
        ordinary();
        refusals();
        Check.end();
    }

    private static void ordinary() {
        PieceTrace x = Check.filledTo(2);
        Check.due("not held at first", x.at(1, 3), 0);
        x.hold(1, true);
        Check.due("held", x.at(1, 3), 1);
        Check.due("live as before", x.at(1, 2), 0);
        Check.due("the other is not", x.at(0, 3), 0);
        Check.due("its weight is live", x.told(0), 2000);
        x.hold(1, false);
        Check.due("let go", x.at(1, 3), 0);
        x.hold(1, true);
        Check.due("held again", x.at(1, 3), 1);
        x.hold(1, false);
        Check.due("usable when let go", x.slit(1, 2), 2);
        Check.due("a used one is not held", x.at(1, 3), 0);
    }

    private static void refusals() {
        for (int piece : Check.NOT_IN_MIXED) {
            Check.refused("no piece " + piece, Check.INDEX, Check::mixed, x -> x.hold(piece, true));
            Check.refused("no piece " + piece, Check.INDEX, Check::mixed, x -> x.hold(piece, false));
        }
        for (int piece : new int[] {0, 2}) {
            Check.refused("hold one that is not live", Check.TURN, Check::mixed, x -> x.hold(piece, true));
            Check.refused("let go one that is not live", Check.TURN, Check::mixed, x -> x.hold(piece, false));
        }
        Check.refused("held", Check.TURN, Check::mixed, x -> x.hold(3, true));
        Check.refused("not held", Check.TURN, Check::mixed, x -> x.hold(4, false));
    }
}

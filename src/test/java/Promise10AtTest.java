/** Promise 10: at. */
public final class Promise10AtTest {
    public static void main(String[] args) {
        PieceTrace x = pieces();
        int[][] due = {
            {1000, 300, 1, 0, -1, -1, 0}, // 0: a melt, cut
            {333, 100, 1, 0, 0, -1, 0}, // 1: its first part, rolled
            {667, 200, 1, 0, 0, -1, 0}, // 2: its second part, welded
            {333, 150, 1, 0, 1, -1, 1}, // 3: rolled, welded
            {1000, 350, 1, 0, 2, 3, 1}, // 4: the weld, slit
            {500, 350, 0, 1, 4, -1, 1}, // 5: a slit, held
            {500, 350, 2, 0, 4, -1, 1}, // 6: a slit, scrap
            {250, 9, 0, 0, -1, -1, 0}, // 7: from the heap
        };
        for (int piece = 0; piece < due.length; piece++) {
            Check.pieceIs(x, piece, due[piece]);
        }
        refusals();
        Check.end();
    }

    private static PieceTrace pieces() {
        PieceTrace x = new PieceTrace();
        x.melt(1000, 300);
        x.cut(0, 100);
        x.roll(1, 3, 2);
        x.weld(2, 3);
        x.slit(4, 2);
        x.hold(5, true);
        x.scrap(6);
        x.back(50, 9);
        return x;
    }

    private static void refusals() {
        int[] none = {-1, 8, 40, Integer.MIN_VALUE, Integer.MAX_VALUE};
        for (int piece : none) {
            Check.refused("no piece " + piece, Check.INDEX, Promise10AtTest::pieces, x -> x.at(piece, 0));
        }
        int[] whats = {-1, 7, Integer.MIN_VALUE, Integer.MAX_VALUE};
        for (int what : whats) {
            Check.refused("no what " + what, Check.INDEX, Promise10AtTest::pieces, x -> x.at(0, what));
        }
        Check.refused("none of 40", Check.INDEX, () -> Check.filledTo(40), x -> x.at(40, 0));
        Check.due("the last of 40", Check.filledTo(40).at(39, 1), 1000);
    }
}

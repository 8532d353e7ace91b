/** Promise 10: at. */
public final class Promise10AtTest {
    public static void main(String[] args) {
        allKindsOfPieces();
        mostRolls();
        theFirstAndTheLastPiece();
        noSuchPiece();
        noSuchWhat();
        Check.end();
    }

    private static void allKindsOfPieces() {
        PieceTrace x = pieces();
        int[][] due = {
            {1000, 300, 1, 0, -1, -1, 0}, // 0: a melt, cut
            {333, 100, 1, 0, 0, -1, 0}, // 1: its first part, rolled
            {667, 200, 1, 0, 0, -1, 0}, // 2: its second part, welded
            {333, 150, 1, 0, 1, -1, 1}, // 3: rolled, welded
            {1000, 350, 1, 0, 2, 3, 1}, // 4: the weld, slit
            {500, 350, 0, 1, 4, -1, 1}, // 5: a slit, held
            {500, 350, 2, 0, 4, -1, 1}, // 6: a slit, scrap
            {250, 9, 0, 0, -1, -1, 0}, // 7: from the heap
        };
        for (int piece = 0; piece < due.length; piece++) {
            Check.pieceIs(x, piece, due[piece]);
        }
    }

    /** "6 the most rolls on its way from a melt": through cuts, slits and welds, none from the heap. */
    private static void mostRolls() {
        PieceTrace x = Check.filledTo(2);
        x.roll(0, 1, 1); // 2
        x.cut(2, 400); // 3, 4
        x.roll(4, 1, 1); // 5
        x.slit(5, 2); // 6, 7
        x.weld(3, 6); // 8
        x.weld(8, 1); // 9
        x.roll(9, 1, 1); // 10
        int[] due = {0, 0, 1, 1, 1, 2, 2, 2, 2, 2, 3};
        for (int piece = 0; piece < due.length; piece++) {
            Check.due("rolls of " + piece, x.at(piece, 6), due[piece]);
        }
        x.scrap(10);
        x.back(100, 5);
        Check.due("rolls of one from the heap", x.at(11, 6), 0);
    }

    private static void theFirstAndTheLastPiece() {
        PieceTrace x = Check.fullMixed();
        Check.pieceIs(x, 0, 1000, 300, 1, 0, -1, -1, 0);
        Check.pieceIs(x, 39, 1000, 1000, 0, 0, -1, -1, 0);
    }

    /** "Index: no such piece". */
    private static void noSuchPiece() {
        for (int what = 0; what <= 6; what++) {
            int asked = what;
            for (int piece : Check.NOT_IN_MIXED) {
                Check.refused("no piece " + piece, Check.INDEX, Check::mixed, x -> x.at(piece, asked));
            }
            for (int piece : Check.NOT_IN_FULL) {
                Check.refused("no piece " + piece, Check.INDEX, Check::fullMixed, x -> x.at(piece, asked));
            }
        }
    }

    /** "or what". */
    private static void noSuchWhat() {
        for (int what : Check.outside(0, 6)) {
            Check.refused("no what " + what, Check.INDEX, Check::mixed, x -> x.at(0, what));
            Check.refused("neither", Check.INDEX, Check::mixed, x -> x.at(5, what));
        }
    }

    private static PieceTrace pieces() {
        PieceTrace x = Check.oneMelt(1000, 300);
        x.cut(0, 100);
        x.roll(1, 3, 2);
        x.weld(2, 3);
        x.slit(4, 2);
        x.hold(5, true);
        x.scrap(6);
        x.back(50, 9);
        return x;
    }
}

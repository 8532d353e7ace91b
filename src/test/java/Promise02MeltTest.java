/** Promise 2: melt. */
public final class Promise02MeltTest {
    private static final int MOST = 1_000_000;

    public static void main(String[] args) {
        ordinary();
        leastAndMostWeight();
        leastAndMostLength();
        roomForTheFortieth();
        fortyEver();
        rangeAheadOfMeaning();
        Check.end();
    }

    private static void ordinary() {
        PieceTrace x = new PieceTrace();
        Check.due("first melt", x.melt(1000, 300), 0);
        Check.due("second melt", x.melt(999, 100), 1);
        Check.pieceIs(x, 0, 1000, 300, 0, 0, -1, -1, 0);
        Check.pieceIs(x, 1, 999, 100, 0, 0, -1, -1, 0);
    }

    /** "Range: weight .. (1 .. 1,000,000 ..)". */
    private static void leastAndMostWeight() {
        PieceTrace x = new PieceTrace();
        Check.due("least", x.melt(1, 500), 0);
        Check.due("most", x.melt(MOST, 500), 1);
        Check.weightsAndLengths("least", x, 0, 1, 500);
        Check.weightsAndLengths("most", x, 1, MOST, 500);
        for (int weight : Check.outside(1, MOST)) {
            Check.refused("weight " + weight, Check.RANGE, Check::mixed, y -> y.melt(weight, 500));
        }
    }

    /** "Range: .. length (1 .. 1,000,000 ..)". */
    private static void leastAndMostLength() {
        PieceTrace x = new PieceTrace();
        Check.due("least", x.melt(500, 1), 0);
        Check.due("most", x.melt(500, MOST), 1);
        Check.weightsAndLengths("least", x, 0, 500, 1);
        Check.weightsAndLengths("most", x, 1, 500, MOST);
        for (int length : Check.outside(1, MOST)) {
            Check.refused("length " + length, Check.RANGE, Check::mixed, y -> y.melt(500, length));
        }
    }

    /** "meaning: there are 40 pieces". */
    private static void roomForTheFortieth() {
        PieceTrace x = Check.filledTo(39);
        Check.due("the 40th piece", x.melt(5, 6), 39);
        Check.pieceIs(x, 39, 5, 6, 0, 0, -1, -1, 0);
        Check.refused("a 41st", Check.MEANING, () -> Check.filledTo(40), y -> y.melt(1, 1));
    }

    /** "PIECES .. (at most 40 ever)": used ones and scrap give no room again. */
    private static void fortyEver() {
        Check.refused("used ones", Check.MEANING, Promise02MeltTest::mostAreUsed, x -> x.melt(1, 1));
        Check.refused("scrap", Check.MEANING, Promise02MeltTest::allAreScrap, x -> x.melt(1, 1));
    }

    private static void rangeAheadOfMeaning() {
        for (int number : Check.outside(1, MOST)) {
            Check.refused("weight ahead of room", Check.RANGE, Check::fullMixed, x -> x.melt(number, 1));
            Check.refused("length ahead of room", Check.RANGE, Check::fullMixed, x -> x.melt(1, number));
        }
    }

    private static PieceTrace mostAreUsed() {
        PieceTrace x = Check.filledTo(1);
        int last = 0;
        for (int i = 0; i < 13; i++) {
            last = x.slit(last, 3);
        }
        return x;
    }

    private static PieceTrace allAreScrap() {
        PieceTrace x = Check.filledTo(40);
        for (int piece = 0; piece < 40; piece++) {
            x.scrap(piece);
        }
        return x;
    }
}

/** Promise 15: told. */
public final class Promise15ToldTest {
    public static void main(String[] args) {
        anEmptyObject();
        ordinary();
        theLargestSums();
        meltsFromTheHeapAreNotTold();
        noSuchWhat();
        Check.end();
    }

    private static void ordinary() {
        PieceTrace x = new PieceTrace();
        told(x, 0, 0, 0);
        x.melt(1000, 300);
        told(x, 1000, 0, 1000);
        x.melt(999, 100);
        told(x, 1999, 0, 1999);
        x.cut(0, 100); // 2, 3
        told(x, 1999, 0, 1999);
        x.weld(3, 1); // 4
        told(x, 1999, 0, 1999);
        x.roll(4, 7, 3); // 5
        told(x, 1999, 0, 1999);
        x.slit(5, 3); // 6, 7, 8
        told(x, 1999, 0, 1999);
        x.hold(6, true);
        told(x, 1999, 0, 1999);
        x.hold(6, false);
        x.scrap(6);
        told(x, 1443, 556, 1999);
        x.scrap(2);
        told(x, 1110, 889, 1999);
        x.back(50, 10); // 9
        told(x, 1554, 445, 1999);
        x.melt(1, 1); // 10
        told(x, 1555, 445, 2000);
        x.scrap(9);
        told(x, 1111, 889, 2000);
        x.back(100, 1); // 11
        told(x, 2000, 0, 2000);
    }

    private static void anEmptyObject() {
        told(new PieceTrace(), 0, 0, 0);
    }

    /** 40 melts of 1,000,000 grams: the most there can be. */
    private static void theLargestSums() {
        PieceTrace x = new PieceTrace();
        for (int i = 0; i < 40; i++) {
            x.melt(1_000_000, 1);
        }
        told(x, 40_000_000, 0, 40_000_000);
        for (int i = 0; i < 40; i++) {
            x.scrap(i);
        }
        told(x, 0, 40_000_000, 40_000_000);
    }

    /** "2 of all melts, but those from the heap". */
    private static void meltsFromTheHeapAreNotTold() {
        PieceTrace x = Check.filledTo(1);
        for (int i = 0; i < 5; i++) {
            x.scrap(i);
            x.back(100, 10);
            told(x, 1000, 0, 1000);
        }
    }

    /** "Index: no such what". */
    private static void noSuchWhat() {
        for (int what : Check.outside(0, 2)) {
            Check.refused("no what " + what, Check.INDEX, Check::mixed, x -> x.told(what));
            Check.refused("no what " + what, Check.INDEX, PieceTrace::new, x -> x.told(what));
        }
    }

    private static void told(PieceTrace x, long live, long heap, long melts) {
        Check.due("live", x.told(0), live);
        Check.due("heap", x.told(1), heap);
        Check.due("melts", x.told(2), melts);
    }
}

/** Promise 15: told. */
public final class Promise15ToldTest {
    public static void main(String[] args) {
        ordinary();
        refusals();
        Check.end();
    }

    private static void ordinary() {
        PieceTrace x = new PieceTrace();
        told(x, 0, 0, 0);
        x.melt(1000, 300);
        told(x, 1000, 0, 1000);
        x.melt(999, 100);
        told(x, 1999, 0, 1999);
        x.cut(0, 100); // 2, 3
        told(x, 1999, 0, 1999);
        x.weld(3, 1); // 4
        told(x, 1999, 0, 1999);
        x.roll(4, 7, 3); // 5
        told(x, 1999, 0, 1999);
        x.slit(5, 3); // 6, 7, 8
        told(x, 1999, 0, 1999);
        x.hold(6, true);
        told(x, 1999, 0, 1999);
        x.hold(6, false);
        x.scrap(6);
        told(x, 1443, 556, 1999);
        x.scrap(2);
        told(x, 1110, 889, 1999);
        x.back(50, 10); // 9
        told(x, 1554, 445, 1999);
        x.melt(1, 1); // 10
        told(x, 1555, 445, 2000);
        x.scrap(9);
        told(x, 1111, 889, 2000);
        x.back(100, 1); // 11
        told(x, 2000, 0, 2000);
    }

    private static void told(PieceTrace x, long live, long heap, long melts) {
        Check.due("live", x.told(0), live);
        Check.due("heap", x.told(1), heap);
        Check.due("melts", x.told(2), melts);
    }

    private static void refusals() {
        for (int what : new int[] {-1, 3, Integer.MIN_VALUE, Integer.MAX_VALUE}) {
            Check.refused("no what " + what, Check.INDEX, Check::mixed, x -> x.told(what));
        }
    }
}

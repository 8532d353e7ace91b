/** Promise 14: recall. */
public final class Promise14RecallTest {
    public static void main(String[] args) {
        liveOnesByNumbers();
        noLiveOneHasIt();
        firstAndLastOfForty();
        allThatIsLive();
        thereAreNotSoMany();
        noSuchDefect();
        kBelowZero();
        Check.end();
    }

    /** "live .. by numbers": used ones and scrap are not recalled, held ones are live. */
    private static void liveOnesByNumbers() {
        PieceTrace x = Check.filledTo(2);
        x.defect(1, 5);
        recalled(x, 0, 1);
        x.slit(1, 4); // 2, 3, 4, 5
        recalled(x, 0, 2, 3, 4, 5);
        x.scrap(3);
        recalled(x, 0, 2, 4, 5);
        x.hold(4, true);
        recalled(x, 0, 2, 4, 5);
        x.cut(2, 5); // 6 has it not, 7 has it
        recalled(x, 0, 4, 5, 7);
        x.weld(0, 5); // 8
        recalled(x, 0, 4, 7, 8);
        x.defect(0, 5);
        recalled(x, 1, 8);
        recalled(x, 0, 4, 7, 8);
    }

    private static void noLiveOneHasIt() {
        PieceTrace x = Check.filledTo(2);
        x.defect(1, 5);
        x.scrap(1);
        recalled(x, 0);
        x.back(100, 1000);
        recalled(x, 0);
        PieceTrace y = Check.oneMelt(4, 10);
        y.defect(0, 9);
        y.roll(0, 1, 9);
        recalled(y, 0);
    }

    private static void firstAndLastOfForty() {
        PieceTrace x = Check.filledTo(40);
        x.defect(39, 0);
        x.defect(0, 999);
        recalled(x, 0, 39);
        recalled(x, 1, 0);
    }

    /** One melt slit again and again: all that is live has the defect. */
    private static void allThatIsLive() {
        PieceTrace x = Check.filledTo(1);
        x.defect(0, 7);
        for (int piece = 0; piece < 13; piece++) {
            x.slit(piece, 3);
        }
        int[] due = new int[27];
        for (int i = 0; i < due.length; i++) {
            due[i] = 13 + i;
        }
        recalled(x, 0, due);
    }

    /** "-1 when there are not so many". */
    private static void thereAreNotSoMany() {
        PieceTrace x = Check.filledTo(1);
        x.defect(0, 5);
        Check.due("k 0", x.recall(0, 0), 0);
        for (int k : new int[] {1, 2, 39, 40, Integer.MAX_VALUE}) {
            Check.due("k " + k, x.recall(0, k), -1);
        }
    }

    /** "Index: no such defect". */
    private static void noSuchDefect() {
        for (int defect : new int[] {-1, 1, 10, Integer.MIN_VALUE, Integer.MAX_VALUE}) {
            Check.refused("no defect " + defect, Check.INDEX, Check::mixed, x -> x.recall(defect, 0));
            Check.refused("and a wrong k", Check.INDEX, Check::mixed, x -> x.recall(defect, -1));
        }
        Check.refused("none told yet", Check.INDEX, () -> Check.filledTo(1), x -> x.recall(0, 0));
        for (int defect : Check.outside(0, 9)) {
            Check.refused("none of ten", Check.INDEX, Promise14RecallTest::tenDefects, x -> x.recall(defect, 0));
        }
        Check.due("the 10th", tenDefects().recall(9, 0), 0);
    }

    /** "or k is below 0". */
    private static void kBelowZero() {
        for (int k : new int[] {-1, -2, Integer.MIN_VALUE}) {
            Check.refused("k " + k, Check.INDEX, Check::mixed, x -> x.recall(0, k));
        }
    }

    private static void recalled(PieceTrace x, int defect, int... due) {
        for (int k = 0; k < due.length; k++) {
            Check.due("recall " + k, x.recall(defect, k), due[k]);
        }
        Check.due("no more", x.recall(defect, due.length), -1);
        Check.due("no more yet", x.recall(defect, due.length + 1), -1);
    }

    private static PieceTrace tenDefects() {
        PieceTrace x = Check.filledTo(1);
        for (int i = 0; i < 10; i++) {
            x.defect(0, i);
        }
        return x;
    }
}

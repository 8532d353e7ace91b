/** Promise 14: recall. */
public final class Promise14RecallTest {
    public static void main(String[] args) {
        ordinary();
        edges();
        refusals();
        Check.end();
    }

    private static void ordinary() {
        PieceTrace x = Check.filledTo(2);
        x.defect(1, 5);
        recalled(x, 0, 1);
        x.slit(1, 4); // 2, 3, 4, 5
        recalled(x, 0, 2, 3, 4, 5);
        x.scrap(3);
        recalled(x, 0, 2, 4, 5);
        x.hold(4, true);
        recalled(x, 0, 2, 4, 5);
        x.cut(2, 5); // 6 has it not, 7 has it
        recalled(x, 0, 4, 5, 7);
        x.weld(0, 5); // 8
        recalled(x, 0, 4, 7, 8);
        x.defect(0, 5);
        recalled(x, 1, 8);
        recalled(x, 0, 4, 7, 8);
    }

    private static void edges() {
        PieceTrace x = Check.filledTo(40);
        x.defect(39, 0);
        recalled(x, 0, 39);
        x.scrap(39);
        recalled(x, 0);
        x.defect(0, 999);
        recalled(x, 1, 0);
        Check.due("k at its largest", x.recall(0, Integer.MAX_VALUE), -1);
    }

    private static void recalled(PieceTrace x, int defect, int... due) {
        for (int k = 0; k < due.length; k++) {
            Check.due("recall " + k, x.recall(defect, k), due[k]);
        }
        Check.due("no more", x.recall(defect, due.length), -1);
        Check.due("no more yet", x.recall(defect, due.length + 1), -1);
    }

    private static void refusals() {
        int[] none = {-1, 1, 10, Integer.MIN_VALUE, Integer.MAX_VALUE};
        for (int defect : none) {
            Check.refused("no defect " + defect, Check.INDEX, Check::mixed, x -> x.recall(defect, 0));
        }
        for (int k : new int[] {-1, Integer.MIN_VALUE}) {
            Check.refused("k " + k, Check.INDEX, Check::mixed, x -> x.recall(0, k));
        }
    }
}

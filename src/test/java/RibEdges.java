/** The sentences about the rib, and promises 7 to 12. */
final class RibEdges {
    private final Edges due;

    RibEdges(Edges due) {
        this.due = due;
    }

    void all() {
        links();
        joints();
        springs();
        energy();
        polynomial();
        roots();
        ribAnswers();
        ribRefused();
        springAnswers();
        springRefused();
        polyAnswers();
        polyRefused();
        foldsAnswers();
        foldsRefused();
        foldAnswers();
        foldRefused();
        boundAnswers();
        boundRefused();
    }

    private static SkinLoads ribOf(int... springs) {
        SkinLoads x = new SkinLoads();
        x.rib(springs.length + 1);
        for (int j = 1; j <= springs.length; j++) {
            x.spring(j, springs[j - 1]);
        }
        return x;
    }

    private void isPolynomial(SkinLoads x, long... want) {
        for (int k = 0; k < want.length; k++) {
            due.is(x, "poly(" + k + ")", want[k]);
        }
        due.is(x, "poly(" + want.length + ")", Edges.LOST);
    }

    private void links() {
        due.says("Terms", "==== 2 THE RIB: L links (2 .. 5) of length 1, ends held on a line;");
        SkinLoads x = new SkinLoads();
        due.is(x, "rib(1)", Edges.OUTSIDE);
        due.is(x, "rib(6)", Edges.OUTSIDE);
        due.is(x, "many(1)", 2);
        for (int links = 5; links >= 2; links--) {
            due.is(x, "rib(" + links + ")", links - 1);
            due.is(x, "many(1)", links);
        }
    }

    private void joints() {
        due.says("Terms", "JOINTS of it 1 .. L - 1,");
        for (int links = 2; links <= 5; links++) {
            SkinLoads x = new SkinLoads();
            x.rib(links);
            due.is(x, "spring(0, 1)", Edges.UNKNOWN);
            for (int j = 1; j < links; j++) {
                due.is(x, "spring(" + j + ", 2)", 1);
            }
            due.is(x, "spring(" + links + ", 1)", Edges.UNKNOWN);
        }
    }

    private void springs() {
        due.says("Terms", "each with a SPRING (1 .. 20; 1 at first; L is 2).");
        SkinLoads x = new SkinLoads();
        due.is(x, "many(1)", 2);
        due.is(x, "spring(1, 0)", Edges.OUTSIDE);
        due.is(x, "spring(1, 21)", Edges.OUTSIDE);
        due.is(x, "spring(1, 20)", 1);
        due.is(x, "spring(1, 1)", 20);
        due.is(x, "spring(1, 1)", 1);
        due.is(x, "spring(2, 1)", Edges.UNKNOWN);
    }

    /** Each spring's part by its own place, next to the ends (whose ways are 0) and within. */
    private void energy() {
        due.says("Terms", "With y the joint's way off the line (0 at the ends) its ENERGY by a share p is the sum over its"
            + " joints j of SPRING j times the square of (y of j - 1, less twice y of j, and y of j + 1), less p times the"
            + " sum over its links of the square of the difference of y at their ends.");
        isPolynomial(ribOf(7), 28, -2);
        isPolynomial(ribOf(20, 3), 540, -138, 3);
        isPolynomial(ribOf(1, 2, 3), 96, -144, 48, -4);
        isPolynomial(ribOf(3, 1, 1), 48, -4 * (9 + 12 + 3), 40, -4);
        isPolynomial(ribOf(1, 20, 7, 3), 10500, -13630, 4115, -310, 5);
    }

    private void polynomial() {
        due.says("Terms", "K and G are the tables of both sums (whole numbers; like ones across), THE POLYNOMIAL: the"
            + " determinant of K less p G, by powers of p.");
        isPolynomial(ribOf(1), 4, -2);
        isPolynomial(ribOf(1, 1), 9, -12, 3);
        isPolynomial(ribOf(1, 1, 1), 16, -40, 24, -4);
        isPolynomial(ribOf(1, 1, 1, 1), 25, -100, 105, -40, 5);
        isPolynomial(ribOf(20), 80, -2);
        isPolynomial(ribOf(20, 20, 20, 20), 4000000, -800000, 42000, -800, 5);
    }

    /** No two are one (the table that has them is of three stripes), so all L - 1 are apart. */
    private void roots() {
        due.says("Terms", "FOLDS: its roots (all real and above 0), each as often as it is one.");
        int[][] rows = {{1}, {20}, {1, 1}, {20, 1}, {1, 1, 1}, {1, 20, 1}, {1, 1, 1, 1}, {20, 20, 20, 20}, {20, 1, 1, 20}};
        for (int[] row : rows) {
            SkinLoads x = ribOf(row);
            due.is(x, "folds(0, 1)", 0);
            due.is(x, "fold(0, 1)", 0);
            due.is(x, "folds(0, 99)", 0);
            due.is(x, "folds(999, 1)", row.length);
        }
        due.is(ribOf(1, 1), "fold(1, 1)", 1);
        due.is(ribOf(1, 1), "fold(3, 1)", 1);
    }

    private void ribAnswers() {
        due.says(7, "THE RIB has so many links, all SPRINGS 1: how many JOINTS of it.");
        SkinLoads x = ribOf(5, 6, 7);
        due.is(x, "rib(4)", 3);
        isPolynomial(x, 16, -40, 24, -4);
        due.is(x, "spring(3, 9)", 1);
        due.is(x, "rib(2)", 1);
        due.is(x, "rib(5)", 4);
        for (int j = 1; j <= 4; j++) {
            due.is(x, "spring(" + j + ", 1)", 1);
        }
    }

    private void ribRefused() {
        due.says(7, "OUTSIDE.");
        for (int links : new int[] {1, 6, 0, -1, Integer.MAX_VALUE, Integer.MIN_VALUE}) {
            due.changesNothing(Made::full, "rib(" + links + ")", Edges.OUTSIDE);
        }
        due.changesNothing(Made::fresh, "rib(1)", Edges.OUTSIDE);
        due.changesNothing(Made::fresh, "rib(6)", Edges.OUTSIDE);
    }

    private void springAnswers() {
        due.says(8, "A SPRING becomes k: what it was.");
        SkinLoads x = ribOf(5, 6, 7, 8);
        due.is(x, "spring(1, 20)", 5);
        due.is(x, "spring(4, 3)", 8);
        due.is(x, "spring(4, 3)", 3);
        due.is(x, "spring(2, 1)", 6);
        due.is(x, "spring(1, 1)", 20);
        due.is(x, "poly(0)", 25 * 7 * 3);
    }

    private void springRefused() {
        due.says(8, "UNKNOWN: its joint; OUTSIDE.");
        due.changesNothing(Made::full, "spring(0, 0)", Edges.UNKNOWN);
        due.changesNothing(Made::full, "spring(5, 21)", Edges.UNKNOWN);
        due.changesNothing(Made::full, "spring(5, 2)", Edges.UNKNOWN);
        due.changesNothing(Made::full, "spring(-1, 2)", Edges.UNKNOWN);
        due.changesNothing(Made::fresh, "spring(2, 2)", Edges.UNKNOWN);
        due.changesNothing(Made::full, "spring(1, 0)", Edges.OUTSIDE);
        due.changesNothing(Made::full, "spring(4, 21)", Edges.OUTSIDE);
        due.changesNothing(Made::full, "spring(4, -1)", Edges.OUTSIDE);
    }

    private void polyAnswers() {
        due.says(9, "THE POLYNOMIAL's number by p to the k.");
        due.changesNothing(Made::full, "poly(0)", 25L * 3 * 20 * 7 * 5);
        due.changesNothing(Made::full, "poly(4)", 5);
        due.is(new SkinLoads(), "poly(0)", 4);
        due.is(new SkinLoads(), "poly(1)", -2);
    }

    private void polyRefused() {
        due.says(9, "LOST: UNKNOWN: k.");
        due.changesNothing(Made::full, "poly(-1)", Edges.LOST);
        due.changesNothing(Made::full, "poly(5)", Edges.LOST);
        due.changesNothing(Made::fresh, "poly(2)", Edges.LOST);
        SkinLoads x = ribOf(1, 1, 1, 1);
        x.rib(3);
        isPolynomial(x, 9, -12, 3);
    }

    private void foldsAnswers() {
        due.says(10, "FOLDS below the share a by b (0 .. 999 by 1 .. 99).");
        SkinLoads x = ribOf(1, 1);
        due.is(x, "folds(0, 1)", 0);
        due.is(x, "folds(0, 99)", 0);
        due.is(x, "folds(99, 99)", 0);
        due.is(x, "folds(100, 99)", 1);
        due.is(x, "folds(2, 1)", 1);
        due.is(x, "folds(3, 1)", 1);
        due.is(x, "folds(297, 99)", 1);
        due.is(x, "folds(298, 99)", 2);
        due.is(x, "folds(999, 1)", 2);
        due.is(x, "folds(999, 99)", 2);
        due.is(ribOf(1, 1, 1), "folds(2, 1)", 1);
        due.is(ribOf(20), "folds(999, 25)", 0);
        due.is(ribOf(20), "folds(999, 24)", 1);
    }

    private void isOutside(String call) {
        due.changesNothing(Made::full, call, Edges.OUTSIDE);
    }

    private void foldsRefused() {
        due.says(10, "OUTSIDE.");
        isOutside("folds(-1, 1)");
        isOutside("folds(1000, 1)");
        isOutside("folds(0, 0)");
        isOutside("folds(999, 100)");
        isOutside("folds(1, -1)");
        isOutside("folds(-1, 0)");
    }

    private void foldAnswers() {
        due.says(11, "How often that share is a FOLD.");
        SkinLoads x = ribOf(1, 1);
        int[][] rows = {{0, 1, 0}, {1, 1, 1}, {98, 99, 0}, {99, 99, 1}, {100, 99, 0}, {296, 99, 0}, {297, 99, 1},
            {298, 99, 0}, {999, 1, 0}, {999, 99, 0}, {0, 99, 0}};
        for (int[] row : rows) {
            due.is(x, "fold(" + row[0] + ", " + row[1] + ")", row[2]);
        }
        due.is(ribOf(5), "fold(990, 99)", 1);
        due.is(ribOf(20), "fold(40, 1)", 1);
        due.is(ribOf(1, 1, 1), "fold(2, 1)", 1);
        due.is(ribOf(1, 1, 1, 1), "fold(2, 1)", 0);
    }

    private void foldRefused() {
        due.says(11, "OUTSIDE.");
        isOutside("fold(-1, 1)");
        isOutside("fold(1000, 1)");
        isOutside("fold(0, 0)");
        isOutside("fold(999, 100)");
        isOutside("fold(1, -1)");
    }

    private void boundAnswers() {
        due.says(12, "The greatest a (0 .. 999) for which no FOLD is below a by b.");
        SkinLoads five = ribOf(1, 1, 1, 1);
        due.is(five, "bound(1)", 0);
        due.is(five, "bound(2)", 0);
        due.is(five, "bound(3)", 1);
        due.is(five, "bound(99)", 37);
        SkinLoads stiff = ribOf(20);
        due.is(stiff, "bound(1)", 40);
        due.is(stiff, "bound(24)", 960);
        due.is(stiff, "bound(25)", 999);
        due.is(stiff, "bound(99)", 999);
        due.is(ribOf(1), "bound(99)", 198);
        due.is(ribOf(6), "bound(83)", 996);
        due.is(ribOf(6), "bound(84)", 999);
    }

    private void boundRefused() {
        due.says(12, "OUTSIDE.");
        isOutside("bound(0)");
        isOutside("bound(100)");
        isOutside("bound(-1)");
    }
}

/** Promises 7 to 12: the rib, its springs, its polynomial and its folds. */
public final class RibTest {
    private static final Due due = new Due("RibTest");

    public static void main(String[] args) {
        refusals();
        twoLinks();
        fourLinks();
        springsChange();
        due.end();
    }

    private static void refusals() {
        SkinLoads x = new SkinLoads();
        int[] notLinks = {1, 6, 0, -1, Integer.MAX_VALUE, Integer.MIN_VALUE};
        for (int links : notLinks) {
            due.is("rib(" + links + ")", x.rib(links), SkinLoads.OUTSIDE);
        }
        due.is("many(1)", x.many(1), 2);
        due.is("rib(5)", x.rib(5), 4);
        due.is("many(1)", x.many(1), 5);
        due.is("spring(0, 21)", x.spring(0, 21), SkinLoads.UNKNOWN);
        due.is("spring(5, 21)", x.spring(5, 21), SkinLoads.UNKNOWN);
        due.is("spring(4, 0)", x.spring(4, 0), SkinLoads.OUTSIDE);
        due.is("spring(4, 21)", x.spring(4, 21), SkinLoads.OUTSIDE);
        due.is("rib(2)", x.rib(2), 1);
        due.is("spring(2, 1)", x.spring(2, 1), SkinLoads.UNKNOWN);
        due.is("rib(5)", x.rib(5), 4);
        due.is("spring(4, 20)", x.spring(4, 20), 1);
        due.is("spring(4, 1)", x.spring(4, 1), 20);
        due.is("poly(-1)", x.poly(-1), Due.LOST);
        due.is("poly(5)", x.poly(5), Due.LOST);
        int[][] notShares = {{-1, 1}, {1000, 1}, {0, 0}, {0, 100}, {0, -1}, {Integer.MIN_VALUE, 1}};
        for (int[] share : notShares) {
            due.is("folds(" + share[0] + ", " + share[1] + ")", x.folds(share[0], share[1]), SkinLoads.OUTSIDE);
            due.is("fold(" + share[0] + ", " + share[1] + ")", x.fold(share[0], share[1]), SkinLoads.OUTSIDE);
        }
        due.is("bound(0)", x.bound(0), SkinLoads.OUTSIDE);
        due.is("bound(100)", x.bound(100), SkinLoads.OUTSIDE);
    }

    /** One joint: 4 k less 2 p, so the fold is at 2 k. */
    private static void twoLinks() {
        for (int k = 1; k <= 20; k++) {
            SkinLoads x = new SkinLoads();
            x.spring(1, k);
            due.is("poly(0)", x.poly(0), 4L * k);
            due.is("poly(1)", x.poly(1), -2);
            due.is("poly(2)", x.poly(2), Due.LOST);
            due.is("folds at it", x.folds(2 * k, 1), 0);
            due.is("fold at it", x.fold(2 * k, 1), 1);
            due.is("fold at it, other terms", x.fold(6 * k, 3), 1);
            due.is("folds beyond", x.folds(20 * k + 1, 10), 1);
            due.is("fold beyond", x.fold(20 * k + 1, 10), 0);
            for (int b = 1; b <= 99; b++) {
                due.is("bound(" + b + ")", x.bound(b), Math.min(999, 2 * k * b));
            }
        }
    }

    /** Springs of 1: the folds are 2 less the root of 2, 2, and 2 and the root of 2. */
    private static void fourLinks() {
        SkinLoads x = new SkinLoads();
        x.rib(4);
        long[] want = {16, -40, 24, -4};
        for (int k = 0; k < 4; k++) {
            due.is("poly(" + k + ")", x.poly(k), want[k]);
        }
        int[][] rows = {{0, 1, 0, 0}, {57, 99, 0, 0}, {58, 99, 1, 0}, {199, 99, 2, 0}, {2, 1, 1, 1}, {198, 99, 1, 1},
            {338, 99, 2, 0}, {339, 99, 3, 0}, {999, 1, 3, 0}};
        for (int[] row : rows) {
            due.is("folds(" + row[0] + ", " + row[1] + ")", x.folds(row[0], row[1]), row[2]);
            due.is("fold(" + row[0] + ", " + row[1] + ")", x.fold(row[0], row[1]), row[3]);
        }
        due.is("bound(99)", x.bound(99), 57);
        due.is("bound(1)", x.bound(1), 0);
        due.is("bound(2)", x.bound(2), 1);
    }

    private static void springsChange() {
        SkinLoads x = new SkinLoads();
        x.rib(3);
        due.is("poly(0)", x.poly(0), 9);
        due.is("spring(2, 3)", x.spring(2, 3), 1);
        due.is("poly(0)", x.poly(0), 27);
        due.is("spring(2, 30)", x.spring(2, 30), SkinLoads.OUTSIDE);
        due.is("poly(0) after a refusal", x.poly(0), 27);
        due.is("rib(9)", x.rib(9), SkinLoads.OUTSIDE);
        due.is("poly(0) after a refusal", x.poly(0), 27);
        due.is("rib(3)", x.rib(3), 2);
        due.is("poly(0) of springs 1", x.poly(0), 9);
        due.is("spring(2, 1)", x.spring(2, 1), 1);
        x.rib(5);
        for (int j = 1; j <= 4; j++) {
            x.spring(j, 20);
        }
        long[] want = {4000000, -800000, 42000, -800, 5};
        for (int k = 0; k < 5; k++) {
            due.is("poly(" + k + ")", x.poly(k), want[k]);
        }
        due.is("folds(999, 99)", x.folds(999, 99), 1);
        due.is("folds(999, 1)", x.folds(999, 1), 4);
    }
}

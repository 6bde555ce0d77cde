/** Nets that the tests of the edges begin with, and what is asked of several of them. */
final class Nets {
    private Nets() {
    }

    /** JOINTS by threes: x, y, 1 if it is HELD. */
    static SkinLoads jointsOf(int... rows) {
        SkinLoads x = new SkinLoads();
        for (int k = 0; k + 2 < rows.length; k += 3) {
            x.joint(rows[k], rows[k + 1], rows[k + 2] == 1);
        }
        return x;
    }

    /** BARS of the kind 0 by threes: a, b, STRENGTH. */
    static SkinLoads bars(SkinLoads x, int... rows) {
        for (int k = 0; k + 2 < rows.length; k += 3) {
            x.bar(0, rows[k], rows[k + 1], rows[k + 2]);
        }
        return x;
    }

    /** A HELD JOINT (0), a FREE one (1), and a BAR between them. */
    static SkinLoads arm(int x, int y) {
        return bars(jointsOf(0, 0, 1, x, y, 0), 0, 1, 5);
    }

    /** Two HELD JOINTS (0, 1), two FREE ones above them (2, 3), three BARS: it leans. */
    static SkinLoads frame() {
        return bars(jointsOf(0, 0, 1, 4, 0, 1, 0, 3, 0, 4, 3, 0), 0, 2, 1, 1, 3, 1, 2, 3, 1);
    }

    static SkinLoads heldJoints(int n) {
        SkinLoads x = new SkinLoads();
        for (int k = 0; k < n; k++) {
            x.joint(k % 6, k / 6, true);
        }
        return x;
    }

    /** BARS between the first pairs of eight JOINTS. */
    static SkinLoads heldBars(int n) {
        SkinLoads x = heldJoints(8);
        int made = 0;
        for (int a = 0; a < 8; a++) {
            for (int b = a + 1; b < 8 && made < n; b++) {
                x.bar(made % 3, a, b, 1 + made);
                made++;
            }
        }
        return x;
    }

    /** Two HELD JOINTS, a FREE one (2) above their middle, two BARS: each carries half of a weight. */
    static SkinLoads gable(int left, int right) {
        SkinLoads x = new SkinLoads();
        x.joint(0, 0, true);
        x.joint(4, 0, true);
        x.joint(2, 2, false);
        x.bar(0, 0, 2, left);
        x.bar(0, 2, 1, right);
        return x;
    }

    /** A gable with a weight in each of some cases, as a push of each of its BARS. */
    static SkinLoads weighted(int strength, int... pushes) {
        SkinLoads x = gable(strength, strength);
        for (int c = 0; c < pushes.length; c++) {
            x.load(c, 2, 0, 4 * pushes[c]);
        }
        return x;
    }

    /** A gable with a third BAR between its HELD JOINTS: LOOSE is 1. */
    static SkinLoads looseGable() {
        return bars(weighted(5, 1, 2), 0, 1, 5);
    }

    /** What net(0), net(1), net(2) answer. */
    static void isNet(Edges due, SkinLoads x, int rank, int moves, int loose) {
        due.is(x, "net(0)", rank);
        due.is(x, "net(1)", moves);
        due.is(x, "net(2)", loose);
    }

    /** The moves of a JOINT and those behind it, x and y each. */
    static void isMove(Edges due, SkinLoads x, int joint, int... want) {
        due.is(x, "net(1)", 1);
        for (int k = 0; k < want.length; k++) {
            due.is(x, "move(" + (joint + k / 2) + ", " + k % 2 + ")", want[k]);
        }
    }

    static void isOrder(Edges due, SkinLoads x, int set, int... want) {
        for (int i = 0; i < want.length; i++) {
            due.is(x, "order(" + set + ", " + i + ")", want[i]);
        }
    }
}

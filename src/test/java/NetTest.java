/** Promises 13 to 24: joints, bars, loads, what stands, pushes, limits, needs and orders. */
public final class NetTest {
    private static final Due due = new Due("NetTest");
    private static final long LOST = Due.LOST;

    public static void main(String[] args) {
        joints();
        bars();
        loads();
        emptyNet();
        pushes();
        limits();
        moves();
        looseNet();
        needs();
        orders();
        due.end();
    }

    /** Two held joints, a free one above their middle, two bars: each carries half of a weight. */
    private static SkinLoads gable(int left, int right) {
        SkinLoads x = new SkinLoads();
        x.joint(0, 0, true);
        x.joint(4, 0, true);
        x.joint(2, 2, false);
        x.bar(0, 0, 2, left);
        x.bar(0, 2, 1, right);
        return x;
    }

    private static void joints() {
        SkinLoads x = new SkinLoads();
        int[][] places = {{-1, 0}, {0, -1}, {6, 0}, {0, 6}, {Integer.MAX_VALUE, Integer.MIN_VALUE}};
        for (int[] place : places) {
            due.is("joint outside", x.joint(place[0], place[1], true), SkinLoads.OUTSIDE);
        }
        due.is("many(2)", x.many(2), 0);
        for (int k = 0; k < 4; k++) {
            due.is("free", x.joint(k, k, false), k);
        }
        due.is("OUTSIDE ahead of FULL", x.joint(6, 6, false), SkinLoads.OUTSIDE);
        due.is("STATE ahead of FULL", x.joint(0, 0, false), SkinLoads.STATE);
        due.is("a fifth free one", x.joint(5, 5, false), SkinLoads.FULL);
        for (int k = 0; k < 4; k++) {
            due.is("held", x.joint(5, k, true), 4 + k);
        }
        due.is("a ninth", x.joint(0, 5, true), SkinLoads.FULL);
        due.is("a ninth", x.joint(0, 5, false), SkinLoads.FULL);
        due.is("STATE ahead of FULL", x.joint(5, 3, true), SkinLoads.STATE);
        due.is("many(2)", x.many(2), 8);
        due.is("many(3)", x.many(3), 4);
    }

    private static void bars() {
        SkinLoads x = new SkinLoads();
        due.is("bar of none", x.bar(0, 0, 1, 1), SkinLoads.UNKNOWN);
        for (int k = 0; k < 8; k++) {
            x.joint(k % 4, k / 4, k < 6);
        }
        due.is("UNKNOWN ahead", x.bar(9, 8, 0, 0), SkinLoads.UNKNOWN);
        due.is("UNKNOWN ahead", x.bar(9, 0, -1, 0), SkinLoads.UNKNOWN);
        due.is("one joint", x.bar(0, 3, 3, 1), SkinLoads.OUTSIDE);
        due.is("kind -1", x.bar(-1, 0, 1, 1), SkinLoads.OUTSIDE);
        due.is("kind 3", x.bar(3, 0, 1, 1), SkinLoads.OUTSIDE);
        due.is("strength 0", x.bar(0, 0, 1, 0), SkinLoads.OUTSIDE);
        due.is("strength 1000", x.bar(0, 0, 1, 1000), SkinLoads.OUTSIDE);
        due.is("bar", x.bar(2, 1, 0, 999), 0);
        due.is("between the same", x.bar(0, 1, 0, 1), SkinLoads.STATE);
        due.is("between the same", x.bar(0, 0, 1, 1), SkinLoads.STATE);
        due.is("OUTSIDE ahead of STATE", x.bar(0, 0, 1, 0), SkinLoads.OUTSIDE);
        int[] want = {2, 1, 0, 999, 0};
        for (int what = 0; what < 5; what++) {
            due.is("about(0, " + what + ")", x.about(0, what), want[what]);
        }
        due.is("about(0, -1)", x.about(0, -1), SkinLoads.OUTSIDE);
        due.is("about(0, 5)", x.about(0, 5), SkinLoads.OUTSIDE);
        due.is("about(1, 5)", x.about(1, 5), SkinLoads.UNKNOWN);
        due.is("about(-1, 5)", x.about(-1, 5), SkinLoads.UNKNOWN);
        due.is("cut(1, true)", x.cut(1, true), SkinLoads.UNKNOWN);
        due.is("cut(-1, true)", x.cut(-1, true), SkinLoads.UNKNOWN);
        due.is("cut(0, false)", x.cut(0, false), 0);
        due.is("cut(0, true)", x.cut(0, true), 1);
        due.is("cut(0, true)", x.cut(0, true), 0);
        due.is("about(0, 4)", x.about(0, 4), 1);
        due.is("many(5)", x.many(5), 1);
        due.is("a cut one is still between them", x.bar(0, 0, 1, 1), SkinLoads.STATE);
        due.is("cut(0, false)", x.cut(0, false), 1);
        due.is("many(5)", x.many(5), 0);
        int made = 1;
        for (int a = 0; a < 8 && made < 16; a++) {
            for (int b = Math.max(2, a + 1); b < 8 && made < 16; b++) {
                due.is("bar", x.bar(made % 3, a, b, made), made);
                due.is("kind", x.about(made, 0), made % 3);
                made++;
            }
        }
        due.is("a seventeenth", x.bar(0, 6, 7, 1), SkinLoads.FULL);
        due.is("STATE ahead of FULL", x.bar(0, 0, 2, 1), SkinLoads.STATE);
        due.is("many(4)", x.many(4), 16);
    }

    private static void loads() {
        SkinLoads x = gable(9, 9);
        due.is("UNKNOWN ahead", x.load(-1, 2, 31, 0), SkinLoads.UNKNOWN);
        due.is("UNKNOWN ahead", x.load(6, 2, 31, 0), SkinLoads.UNKNOWN);
        due.is("UNKNOWN ahead", x.load(0, 3, 31, 0), SkinLoads.UNKNOWN);
        due.is("UNKNOWN ahead", x.load(0, -1, 31, 0), SkinLoads.UNKNOWN);
        int[][] rows = {{31, 0}, {-31, 0}, {0, 31}, {0, -31}};
        for (int[] row : rows) {
            due.is("OUTSIDE ahead of STATE", x.load(0, 0, row[0], row[1]), SkinLoads.OUTSIDE);
        }
        due.is("held", x.load(0, 0, 0, 0), SkinLoads.STATE);
        due.is("load", x.load(5, 2, 30, -30), 1);
        due.is("push(5, 0, 0)", x.push(5, 0, 0), 0);
        due.is("push(5, 1, 0)", x.push(5, 1, 0), -15);
        due.is("load again", x.load(5, 2, 0, -30), 1);
        due.is("push(5, 0, 0)", x.push(5, 0, 0), -15);
        due.is("push(5, 0, 1)", x.push(5, 0, 1), 2);
    }

    private static void emptyNet() {
        SkinLoads x = new SkinLoads();
        for (int what = 0; what < 3; what++) {
            due.is("net(" + what + ")", x.net(what), 0);
        }
        due.is("net(3)", x.net(3), SkinLoads.OUTSIDE);
        due.is("net(-1)", x.net(-1), SkinLoads.OUTSIDE);
        due.is("stands(5)", x.stands(5), 1);
        due.is("stands(6)", x.stands(6), SkinLoads.UNKNOWN);
        due.is("stands(-1)", x.stands(-1), SkinLoads.UNKNOWN);
        due.is("push", x.push(0, 0, 0), LOST);
        due.is("limit", x.limit(0, 2), SkinLoads.NONE);
        due.is("needs", x.needs(0), 0);
        due.is("needs(6)", x.needs(6), SkinLoads.UNKNOWN);
        due.is("move", x.move(0, 0), LOST);
        due.is("order", x.order(63, 5), 5);
        x.joint(0, 0, false);
        due.is("MOVES of a free joint alone", x.net(1), 2);
        due.is("move, MOVES is 2", x.move(0, 0), LOST);
        due.is("stands without load", x.stands(0), 1);
        x.load(0, 0, 0, 1);
        due.is("stands", x.stands(0), 0);
        due.is("stands", x.stands(1), 1);
        due.is("limit of one that does not stand", x.limit(0, 0), LOST);
        due.is("needs of one that does not stand", x.needs(0), SkinLoads.STATE);
        due.is("order with one that does not stand", x.order(3, 0), SkinLoads.STATE);
        due.is("order without it", x.order(2, 0), 1);
    }

    private static void pushes() {
        SkinLoads x = gable(9, 9);
        x.load(0, 2, 0, -8);
        x.load(1, 2, 3, 0);
        due.is("push(0, 0, 0)", x.push(0, 0, 0), -2);
        due.is("push(0, 0, 1)", x.push(0, 0, 1), 1);
        due.is("push(0, 1, 0)", x.push(0, 1, 0), -2);
        due.is("push(1, 0, 0)", x.push(1, 0, 0), 3);
        due.is("push(1, 0, 1)", x.push(1, 0, 1), 4);
        due.is("push(1, 1, 0)", x.push(1, 1, 0), -3);
        due.is("push(1, 1, 1)", x.push(1, 1, 1), 4);
        due.is("push(2, 1, 0)", x.push(2, 1, 0), 0);
        due.is("push(2, 1, 1)", x.push(2, 1, 1), 1);
        due.is("push(6, 0, 0)", x.push(6, 0, 0), LOST);
        due.is("push(0, 2, 0)", x.push(0, 2, 0), LOST);
        due.is("push(0, 0, 2)", x.push(0, 0, 2), LOST);
        due.is("push(0, 0, -1)", x.push(0, 0, -1), LOST);
        x.cut(1, true);
        due.is("it does not stand", x.push(0, 0, 0), LOST);
        x.load(1, 2, 4, 4);
        due.is("along the bar that is left", x.push(1, 0, 0), 2);
        due.is("a cut one", x.push(1, 1, 0), 0);
        due.is("a cut one", x.push(1, 1, 1), 1);
        x.bar(0, 0, 1, 1);
        due.is("LOOSE is 1", x.net(2), 1);
        due.is("LOOSE is not 0", x.push(1, 0, 0), LOST);
    }

    private static void limits() {
        SkinLoads x = gable(3, 1);
        x.load(0, 2, 0, -8);
        x.load(1, 2, 8, 0);
        long[] want = {1, 2, 1};
        for (int what = 0; what < 3; what++) {
            due.is("limit(0, " + what + ")", x.limit(0, what), want[what]);
            due.is("limit(1, " + what + ")", x.limit(1, what), want[what]);
            due.is("limit(2, " + what + ")", x.limit(2, what), SkinLoads.NONE);
        }
        due.is("limit(0, 3)", x.limit(0, 3), LOST);
        due.is("limit(0, -1)", x.limit(0, -1), LOST);
        due.is("limit(6, 0)", x.limit(6, 0), LOST);
        due.is("limit(-1, 0)", x.limit(-1, 0), LOST);
        SkinLoads y = gable(6, 6);
        y.load(0, 2, 0, -8);
        due.is("limit(0, 0)", y.limit(0, 0), 3);
        due.is("limit(0, 1)", y.limit(0, 1), 1);
        due.is("of several the least number", y.limit(0, 2), 0);
        y.load(0, 2, 8, -8);
        due.is("limit(0, 0)", y.limit(0, 0), 3);
        due.is("limit(0, 1)", y.limit(0, 1), 2);
        due.is("one whose push is 0 is passed over", y.limit(0, 2), 1);
    }

    private static void moves() {
        SkinLoads x = new SkinLoads();
        x.joint(0, 0, true);
        x.joint(2, 4, false);
        x.bar(0, 1, 0, 1);
        due.is("MOVES", x.net(1), 1);
        due.is("move(1, 0)", x.move(1, 0), 2);
        due.is("move(1, 1)", x.move(1, 1), -1);
        due.is("move(1, 2)", x.move(1, 2), LOST);
        due.is("move(1, -1)", x.move(1, -1), LOST);
        due.is("move of a held one", x.move(0, 0), LOST);
        due.is("move(2, 0)", x.move(2, 0), LOST);
        SkinLoads y = new SkinLoads();
        y.joint(0, 0, true);
        y.joint(3, 0, false);
        y.bar(0, 0, 1, 1);
        due.is("move(1, 0)", y.move(1, 0), 0);
        due.is("move(1, 1)", y.move(1, 1), 1);
        SkinLoads upright = new SkinLoads();
        upright.joint(0, 0, true);
        upright.joint(0, 3, false);
        upright.bar(0, 0, 1, 1);
        due.is("move(1, 0)", upright.move(1, 0), 1);
        due.is("move(1, 1)", upright.move(1, 1), 0);
        y.joint(5, 5, true);
        y.bar(0, 1, 2, 1);
        due.is("MOVES", y.net(1), 0);
        due.is("move, MOVES is 0", y.move(1, 1), LOST);
        SkinLoads z = new SkinLoads();
        z.joint(0, 0, true);
        z.joint(4, 0, true);
        z.joint(0, 3, false);
        z.joint(4, 3, false);
        z.bar(0, 0, 2, 1);
        z.bar(0, 1, 3, 1);
        z.bar(0, 2, 3, 1);
        long[] want = {1, 0, 1, 0};
        for (int k = 0; k < 4; k++) {
            due.is("a frame leans", z.move(2 + k / 2, k % 2), want[k]);
        }
    }

    private static void looseNet() {
        SkinLoads x = gable(5, 5);
        x.joint(2, 0, true);
        x.bar(0, 2, 3, 5);
        x.load(0, 2, 0, -8);
        due.is("RANK", x.net(0), 2);
        due.is("MOVES", x.net(1), 0);
        due.is("LOOSE", x.net(2), 1);
        due.is("stands(0)", x.stands(0), 1);
        due.is("push(0, 0, 0)", x.push(0, 0, 0), LOST);
        due.is("limit(0, 0)", x.limit(0, 0), LOST);
        due.is("order(1, 0)", x.order(1, 0), SkinLoads.STATE);
        due.is("UNKNOWN ahead of STATE", x.order(1, 1), SkinLoads.UNKNOWN);
        due.is("OUTSIDE ahead of UNKNOWN", x.order(0, 1), SkinLoads.OUTSIDE);
        due.is("needs(0)", x.needs(0), 0);
        x.cut(2, true);
        due.is("LOOSE", x.net(2), 0);
        due.is("push(0, 0, 0)", x.push(0, 0, 0), -2);
        due.is("needs(0)", x.needs(0), 3);
    }

    private static void needs() {
        SkinLoads x = gable(5, 5);
        x.load(0, 2, 4, 4);
        due.is("needs of a load along one bar", x.needs(0), 1);
        due.is("needs of no load", x.needs(1), 0);
        due.is("needs(-1)", x.needs(-1), SkinLoads.UNKNOWN);
        x.cut(0, true);
        due.is("needs", x.needs(0), SkinLoads.STATE);
        due.is("needs of no load", x.needs(1), 0);
        SkinLoads y = new SkinLoads();
        y.joint(0, 0, true);
        y.joint(2, 0, false);
        y.joint(5, 0, true);
        y.joint(2, 5, true);
        y.bar(0, 0, 1, 1);
        y.bar(0, 1, 2, 1);
        y.bar(0, 1, 3, 1);
        y.load(0, 1, 7, 0);
        y.load(1, 1, 7, 7);
        y.load(2, 1, 0, 7);
        due.is("either of two will do", y.needs(0), 0);
        due.is("the upright alone", y.needs(1), 4);
        due.is("the upright alone", y.needs(2), 4);
    }

    private static void orders() {
        SkinLoads x = gable(3, 3);
        x.load(0, 2, 0, -16);
        x.load(1, 2, 0, 12);
        x.load(2, 2, 0, 8);
        due.is("order(1, 0): it gives alone", x.order(1, 0), SkinLoads.NONE);
        due.is("order(3, 0)", x.order(3, 0), 1);
        due.is("order(3, 1)", x.order(3, 1), 0);
        due.is("order(5, 0)", x.order(5, 0), 2);
        due.is("order(5, 1)", x.order(5, 1), 0);
        due.is("order(6, 0): both give", x.order(6, 0), SkinLoads.NONE);
        due.is("order(6, 1)", x.order(6, 1), SkinLoads.NONE);
        int[] want = {1, 0, 2};
        for (int i = 0; i < 3; i++) {
            due.is("order(7, " + i + ")", x.order(7, i), want[i]);
        }
        due.is("order(7, 3)", x.order(7, 3), SkinLoads.UNKNOWN);
        due.is("order(7, -1)", x.order(7, -1), SkinLoads.UNKNOWN);
        due.is("order(64, 0)", x.order(64, 0), SkinLoads.OUTSIDE);
        due.is("order(-1, 0)", x.order(-1, 0), SkinLoads.OUTSIDE);
        int[] withEmpty = {1, 0, 2, 3, 4, 5};
        for (int i = 0; i < 6; i++) {
            due.is("order(63, " + i + ")", x.order(63, i), withEmpty[i]);
        }
        x.load(0, 2, 0, -12);
        due.is("at the strength none gives", x.order(1, 0), 0);
        for (int weak = 0; weak < 2; weak++) {
            SkinLoads y = gable(weak == 0 ? 1 : 9, weak == 0 ? 9 : 1);
            y.load(0, 2, 0, -8);
            due.is("one bar alone gives", y.order(1, 0), SkinLoads.NONE);
        }
    }
}

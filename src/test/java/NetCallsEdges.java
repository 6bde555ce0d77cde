/** Promises 13 to 24: the calls about the net. */
final class NetCallsEdges {
    private final Edges due;

    NetCallsEdges(Edges due) {
        this.due = due;
    }

    void all() {
        jointAnswers();
        jointOutside();
        jointState();
        jointFull();
        barAnswers();
        barUnknown();
        barOutside();
        barState();
        barFull();
        cutAnswers();
        cutRefused();
        aboutAnswers();
        aboutRefused();
        loadAnswers();
        loadRefused();
        netAnswers();
        netRefused();
        moveAnswers();
        moveRefused();
        standsAnswers();
        standsRefused();
        pushAnswers();
        pushRefused();
        limitAnswers();
        limitRefused();
        needsAnswers();
        needsRefused();
        orderAnswers();
        orderOutside();
        orderUnknown();
        orderState();
    }

    // ---- promises 13 and 14

    private void jointAnswers() {
        due.says(13, "A JOINT: its number.");
        SkinLoads x = new SkinLoads();
        due.is(x, "joint(3, 4, false)", 0);
        due.is(x, "joint(6, 4, true)", Edges.OUTSIDE);
        due.is(x, "joint(3, 4, true)", Edges.STATE);
        due.is(x, "joint(4, 3, true)", 1);
        due.is(Nets.heldJoints(7), "joint(5, 5, true)", 7);
    }

    private void jointOutside() {
        due.says(13, "OUTSIDE: place;");
        due.changeNothing(Made::fresh, Edges.OUTSIDE, "joint(-1, 0, true)", "joint(0, -1, false)", "joint(6, 0, true)",
            "joint(0, 6, false)", "joint(2147483647, -2147483648, true)");
        due.changeNothing(Made::full, Edges.OUTSIDE, "joint(6, 5, true)", "joint(5, 6, false)", "joint(-1, 5, false)",
            "joint(5, -1, true)");
    }

    private void jointState() {
        due.says(13, "STATE: there is one at it;");
        due.changeNothing(() -> Nets.jointsOf(5, 0, 1, 0, 5, 0), Edges.STATE, "joint(5, 0, true)", "joint(5, 0, false)",
            "joint(0, 5, true)", "joint(0, 5, false)");
        due.changeNothing(Made::full, Edges.STATE, "joint(0, 0, true)", "joint(3, 4, true)", "joint(3, 4, false)");
    }

    private void jointFull() {
        due.says(13, "FULL: JOINTS, FREE ones.");
        due.changeNothing(Made::full, Edges.FULL, "joint(0, 1, true)", "joint(0, 1, false)");
        due.changeNothing(() -> Nets.heldJoints(8), Edges.FULL, "joint(5, 5, true)", "joint(5, 5, false)");
        Edges.Making four = () -> Nets.jointsOf(0, 0, 0, 1, 0, 0, 2, 0, 0, 3, 0, 0);
        due.changeNothing(four, Edges.FULL, "joint(5, 5, false)");
        due.is(four.make(), "joint(5, 5, true)", 4);
        due.is(Nets.heldJoints(7), "joint(5, 5, false)", 7);
    }

    private void barAnswers() {
        due.says(14, "A BAR: its number.");
        SkinLoads x = Nets.heldJoints(8);
        due.is(x, "bar(0, 7, 0, 1)", 0);
        due.is(x, "bar(0, 0, 7, 1)", Edges.STATE);
        due.is(x, "bar(3, 0, 6, 1)", Edges.OUTSIDE);
        due.is(x, "bar(2, 0, 6, 999)", 1);
        due.is(Nets.heldBars(15), "bar(1, 6, 7, 1)", 15);
    }

    private void barUnknown() {
        due.says(14, "UNKNOWN: JOINTS;");
        due.changeNothing(Made::fresh, Edges.UNKNOWN, "bar(0, 0, 1, 1)", "bar(0, 0, 0, 1)");
        due.changeNothing(() -> Nets.heldJoints(3), Edges.UNKNOWN, "bar(0, 3, 0, 1)", "bar(0, 0, 3, 1)",
            "bar(0, -1, 0, 1)", "bar(0, 0, -1, 1)", "bar(3, 3, 3, 0)", "bar(0, -1, -1, 1)");
        due.changeNothing(Made::full, Edges.UNKNOWN, "bar(3, 8, 0, 0)", "bar(3, 0, 8, 0)", "bar(3, -1, 0, 0)",
            "bar(0, 0, 8, 1)");
    }

    private void barOutside() {
        due.says(14, "OUTSIDE: both are one, kind, strength;");
        due.changeNothing(() -> Nets.bars(Nets.heldJoints(3), 0, 1, 1), Edges.OUTSIDE, "bar(0, 0, 0, 1)",
            "bar(0, 2, 2, 1)", "bar(-1, 0, 2, 1)", "bar(3, 0, 2, 1)", "bar(0, 0, 2, 0)", "bar(0, 0, 2, 1000)",
            "bar(0, 0, 2, -1)");
        due.changeNothing(Made::full, Edges.OUTSIDE, "bar(0, 7, 7, 1)", "bar(-1, 0, 4, 1)", "bar(3, 0, 6, 1)",
            "bar(0, 0, 4, 0)", "bar(2, 0, 6, 1000)");
    }

    private void barState() {
        due.says(14, "STATE: there is one between them;");
        due.changeNothing(() -> Nets.bars(Nets.heldJoints(3), 0, 1, 1, 2, 1, 1), Edges.STATE, "bar(0, 0, 1, 1)",
            "bar(0, 1, 0, 1)", "bar(1, 1, 2, 1)", "bar(2, 2, 1, 1)");
        due.changeNothing(Made::full, Edges.STATE, "bar(0, 0, 4, 1)", "bar(0, 7, 6, 1)", "bar(0, 0, 1, 1)",
            "bar(0, 1, 0, 1)");
    }

    private void barFull() {
        due.says(14, "FULL.");
        due.changeNothing(Made::full, Edges.FULL, "bar(0, 0, 6, 1)", "bar(2, 7, 1, 999)");
        due.changeNothing(() -> Nets.heldBars(16), Edges.FULL, "bar(0, 6, 7, 1)");
    }

    // ---- promises 15 to 18

    private void cutAnswers() {
        due.says(15, "A BAR is CUT, or not: 1; 0: it was so.");
        SkinLoads x = Nets.heldBars(16);
        for (int b = 0; b < 16; b += 15) {
            due.is(x, "cut(" + b + ", false)", 0);
            due.is(x, "cut(" + b + ", true)", 1);
            due.is(x, "cut(" + b + ", true)", 0);
            due.is(x, "about(" + b + ", 4)", 1);
            due.is(x, "many(5)", 1);
            due.is(x, "cut(" + b + ", false)", 1);
            due.is(x, "about(" + b + ", 4)", 0);
            due.is(x, "many(5)", 0);
        }
        due.changeNothing(Made::full, 0, "cut(0, false)", "cut(2, true)", "cut(15, false)");
    }

    private void cutRefused() {
        due.says(15, "UNKNOWN.");
        due.changeNothing(Made::full, Edges.UNKNOWN, "cut(-1, true)", "cut(16, true)", "cut(16, false)");
        due.changeNothing(Made::fresh, Edges.UNKNOWN, "cut(0, true)", "cut(0, false)");
        due.changeNothing(() -> Nets.heldBars(3), Edges.UNKNOWN, "cut(3, true)");
    }

    private void aboutAnswers() {
        due.says(16, "Of a BAR: 0 kind, 1, 2 its JOINTS, 3 STRENGTH, 4 whether it is CUT (1, 0).");
        int[][] want = {{0, 0, 4, 20, 0}, {2, 0, 1, 22, 1}, {0, 6, 7, 35, 0}};
        int[] numbers = {0, 2, 15};
        for (int k = 0; k < 3; k++) {
            for (int what = 0; what < 5; what++) {
                due.changesNothing(Made::full, "about(" + numbers[k] + ", " + what + ")", want[k][what]);
            }
        }
        SkinLoads x = Nets.heldJoints(8);
        x.bar(1, 7, 3, 1);
        due.is(x, "about(0, 1)", 7);
        due.is(x, "about(0, 2)", 3);
    }

    private void aboutRefused() {
        due.says(16, "UNKNOWN; OUTSIDE.");
        due.changeNothing(Made::full, Edges.UNKNOWN, "about(-1, 5)", "about(16, -1)", "about(16, 0)");
        due.changeNothing(Made::fresh, Edges.UNKNOWN, "about(0, 0)");
        due.changeNothing(() -> Nets.heldBars(3), Edges.UNKNOWN, "about(3, 0)");
        due.changeNothing(Made::full, Edges.OUTSIDE, "about(0, -1)", "about(15, 5)");
    }

    private void loadAnswers() {
        due.says(17, "A LOAD at a JOINT in a CASE: 1.");
        SkinLoads x = Nets.gable(9, 9);
        for (int c = 0; c < 6; c++) {
            due.is(x, "load(" + c + ", 2, 0, " + 4 * (c + 1) + ")", 1);
        }
        for (int c = 0; c < 6; c++) {
            due.isShare(x, "push(" + c + ", 0)", c + 1, 1);
        }
        due.is(x, "load(5, 2, 0, 24)", 1);
        due.isShare(x, "push(5, 1)", 6, 1);
        due.is(x, "load(0, 2, 8, 0)", 1);
        due.isShare(x, "push(0, 0)", 2, 1);
        due.isShare(x, "push(0, 1)", -2, 1);
        SkinLoads four = Nets.jointsOf(0, 0, 1, 1, 0, 0, 2, 0, 0, 3, 0, 0, 4, 0, 0);
        Nets.bars(four, 0, 1, 9, 1, 2, 9, 2, 3, 9, 3, 4, 9);
        due.is(four, "load(0, 4, 7, 0)", 1);
        for (int b = 0; b < 4; b++) {
            due.isShare(four, "push(0, " + b + ")", 7, 1);
        }
    }

    private void loadRefused() {
        due.says(17, "UNKNOWN; OUTSIDE; STATE: it is HELD.");
        due.changeNothing(Made::full, Edges.UNKNOWN, "load(-1, 4, 31, 0)", "load(6, 4, 0, 31)", "load(0, -1, 31, 0)",
            "load(0, 8, 31, 0)", "load(6, 0, 0, 0)", "load(6, 4, 0, 0)", "load(0, 8, 0, 0)");
        due.changeNothing(Made::fresh, Edges.UNKNOWN, "load(0, 0, 0, 0)");
        due.changeNothing(Made::full, Edges.OUTSIDE, "load(0, 4, 31, 0)", "load(0, 4, -31, 0)", "load(0, 4, 0, 31)",
            "load(5, 7, 0, -31)", "load(0, 0, 31, 0)", "load(0, 3, 0, -31)");
        due.changeNothing(Made::full, Edges.STATE, "load(0, 0, 0, 0)", "load(5, 3, 30, -30)");
    }

    private void netAnswers() {
        due.says(18, "Of THE NET: 0 RANK, 1 MOVES, 2 LOOSE.");
        Nets.isNet(due, new SkinLoads(), 0, 0, 0);
        Nets.isNet(due, Nets.looseGable(), 2, 0, 1);
        Nets.isNet(due, Nets.arm(2, 1), 1, 1, 0);
        due.changeNothing(Made::full, 8, "net(0)");
        due.changeNothing(Made::full, 0, "net(1)", "net(2)");
        SkinLoads x = Nets.gable(1, 1);
        Nets.isNet(due, x, 2, 0, 0);
        x.cut(0, true);
        Nets.isNet(due, x, 1, 1, 0);
        x.joint(0, 5, false);
        Nets.isNet(due, x, 1, 3, 0);
        x.bar(0, 0, 1, 1);
        Nets.isNet(due, x, 1, 3, 1);
        x.bar(0, 0, 3, 1);
        Nets.isNet(due, x, 2, 2, 1);
    }

    private void netRefused() {
        due.says(18, "OUTSIDE.");
        due.changeNothing(Made::full, Edges.OUTSIDE, "net(-1)", "net(3)");
        due.changeNothing(Made::fresh, Edges.OUTSIDE, "net(-1)", "net(3)");
    }

    // ---- promises 19 to 22

    private void moveAnswers() {
        due.says(19, "THE MOVE of a FREE JOINT, along x (way 0), y (1).");
        due.changesNothing(() -> Nets.arm(2, 4), "move(1, 0)", 2);
        due.changesNothing(() -> Nets.arm(2, 4), "move(1, 1)", -1);
        SkinLoads x = Made.full();
        x.cut(15, true);
        Nets.isMove(due, x, 4, 0, 0, 0, 0, 0, 0, 1, -2);
        x.cut(15, false);
        x.cut(0, true);
        Nets.isMove(due, x, 4, 1, 3, 0, 0, -3, -1, 4, -8);
    }

    private void moveRefused() {
        due.says(19, "LOST: UNKNOWN: JOINT; OUTSIDE: way; STATE: it is HELD, or MOVES is not 1.");
        due.changeNothing(() -> Nets.arm(2, 4), Edges.LOST, "move(-1, 0)", "move(2, 0)", "move(1, -1)", "move(1, 2)",
            "move(0, 0)", "move(0, 1)");
        due.changeNothing(Nets::frame, Edges.LOST, "move(2, -1)", "move(2, 2)", "move(3, -1)", "move(3, -2)",
            "move(3, 2)", "move(1, 1)");
        due.changeNothing(Made::fresh, Edges.LOST, "move(0, 0)");
        due.changeNothing(Made::full, Edges.LOST, "move(4, 0)", "move(8, 0)", "move(0, 0)");
        due.changeNothing(() -> Nets.jointsOf(0, 0, 0), Edges.LOST, "move(0, 0)");
        due.changeNothing(() -> Nets.gable(1, 1), Edges.LOST, "move(2, 0)");
    }

    private void standsAnswers() {
        due.says(20, "Whether a CASE STANDS: 1, 0.");
        due.changeNothing(Made::full, 1, "stands(0)", "stands(5)");
        due.changeNothing(Made::fresh, 1, "stands(0)", "stands(5)");
        Edges.Making loaded = () -> {
            SkinLoads x = Nets.jointsOf(0, 0, 0);
            x.load(0, 0, 0, 1);
            x.load(5, 0, -1, 0);
            return x;
        };
        due.changeNothing(loaded, 0, "stands(0)", "stands(5)");
        due.changeNothing(loaded, 1, "stands(1)", "stands(4)");
    }

    private void standsRefused() {
        due.says(20, "UNKNOWN.");
        due.changeNothing(Made::full, Edges.UNKNOWN, "stands(-1)", "stands(6)");
        due.changeNothing(Made::fresh, Edges.UNKNOWN, "stands(-1)", "stands(6)");
    }

    private void pushAnswers() {
        due.says(21, "PUSH of a BAR in a CASE (0 by 1, if it is CUT).");
        SkinLoads x = Nets.gable(9, 9);
        x.load(0, 2, 3, 0);
        due.isShare(x, "push(0, 0)", 3, 4);
        due.isShare(x, "push(0, 1)", -3, 4);
        due.isShare(x, "push(5, 1)", 0, 1);
        x.cut(1, true);
        x.load(0, 2, 4, 4);
        due.isShare(x, "push(0, 0)", 2, 1);
        due.isShare(x, "push(0, 1)", 0, 1);
        due.isShare(Made.full(), "push(0, 2)", 0, 1);
        due.isShare(Made.full(), "push(5, 14)", 0, 1);
        due.isShare(Made.full(), "push(0, 10)", -8, 1);
        due.isShare(Made.full(), "push(0, 15)", -15, 2);
    }

    private void pushRefused() {
        due.says(21, "LOST: UNKNOWN; OUTSIDE: which; STATE: it does not STAND, or LOOSE is not 0.");
        due.changeNothing(Made::full, Edges.LOST, "push(-1, 0, 0)", "push(6, 0, 0)", "push(0, -1, 0)",
            "push(0, 16, 0)", "push(0, 0, -1)", "push(0, 0, 2)");
        due.changeNothing(Made::fresh, Edges.LOST, "push(0, 0, 0)");
        due.changeNothing(Nets::looseGable, Edges.LOST, "push(0, 0, 0)", "push(0, 2, 1)", "push(5, 0, 0)");
        Edges.Making leaning = () -> {
            SkinLoads x = Nets.weighted(5, 1);
            x.cut(0, true);
            return x;
        };
        due.changeNothing(leaning, Edges.LOST, "push(0, 0, 0)", "push(0, 0, 1)", "push(0, 1, 0)");
        due.changesNothing(leaning, "push(1, 1, 1)", 1);
    }

    private void limitAnswers() {
        due.says(22, "LIMIT of a CASE: upper (what 0), lower (1), the BAR that GIVES first beyond (2; NONE of all three:"
            + " all PUSHES are 0).");
        Edges.Making making = () -> Nets.weighted(3, 0, 5, 1);
        for (int what = 0; what < 3; what++) {
            String last = ", " + what + ")";
            due.changesNothing(making, "limit(0" + last, Edges.NONE);
            due.changesNothing(making, "limit(1" + last, what == 0 ? 3 : what == 1 ? 5 : 0);
            due.changesNothing(making, "limit(2" + last, what == 0 ? 3 : what == 1 ? 1 : 0);
            due.changesNothing(making, "limit(5" + last, Edges.NONE);
            due.changesNothing(Made::fresh, "limit(0" + last, Edges.NONE);
        }
        SkinLoads cutOne = Nets.weighted(3, 0);
        cutOne.cut(0, true);
        cutOne.load(0, 2, -30, 30);
        due.isShare(cutOne, "limit(0)", 1, 5);
        due.is(cutOne, "limit(0, 2)", 1);
    }

    private void limitRefused() {
        due.says(22, "LOST: UNKNOWN; OUTSIDE; STATE: as push().");
        due.changeNothing(Made::full, Edges.LOST, "limit(-1, 0)", "limit(6, 0)", "limit(0, -1)", "limit(0, 3)");
        due.changeNothing(Made::fresh, Edges.LOST, "limit(6, 2)", "limit(0, 3)");
        due.changeNothing(Nets::looseGable, Edges.LOST, "limit(0, 0)", "limit(0, 1)", "limit(0, 2)", "limit(5, 2)");
        Edges.Making falls = () -> {
            SkinLoads x = Nets.jointsOf(0, 0, 0);
            x.load(3, 0, 1, 0);
            return x;
        };
        due.changeNothing(falls, Edges.LOST, "limit(3, 0)", "limit(3, 1)", "limit(3, 2)");
    }

    // ---- promises 23 and 24

    private void needsAnswers() {
        due.says(23, "BARS without which (CUT, one alone) a CASE that STANDS would not, as bits.");
        due.changesNothing(Made::fresh, "needs(0)", 0);
        due.changesNothing(Nets::looseGable, "needs(0)", 3);
        due.changesNothing(Nets::looseGable, "needs(5)", 0);
        SkinLoads x = Nets.bars(Nets.jointsOf(0, 0, 1, 2, 0, 0, 5, 0, 1, 2, 5, 1), 0, 1, 1, 1, 2, 1, 1, 3, 1);
        x.load(0, 1, 7, 0);
        x.load(1, 1, 7, 7);
        due.is(x, "needs(0)", 0);
        due.is(x, "needs(1)", 4);
        x.cut(0, true);
        due.is(x, "needs(0)", 2);
        due.is(x, "needs(1)", 6);
        SkinLoads y = Made.full();
        for (int c = 0; c < 6; c++) {
            int want = 0;
            for (int b = 0; b < 16; b++) {
                want |= y.push(c, b, 0) != 0 ? 1 << b : 0;
            }
            due.is(y, "needs(" + c + ")", want);
        }
        due.is(y, "needs(0)", 1 << 15 | 1 << 10 | 1 << 7 | 1 << 6 | 1 << 4 | 1 << 3 | 1 << 1 | 1);
        for (int b = 0; b < 16; b++) {
            y.cut(b, false);
        }
        due.is(y, "needs(0)", 0);
    }

    private void needsRefused() {
        due.says(23, "UNKNOWN; STATE: it does not STAND.");
        Edges.Making falls = () -> {
            SkinLoads x = Nets.jointsOf(0, 0, 0);
            x.load(0, 0, 1, 0);
            x.load(5, 0, 0, 1);
            return x;
        };
        due.changeNothing(falls, Edges.UNKNOWN, "needs(-1)", "needs(6)");
        due.changeNothing(Made::full, Edges.UNKNOWN, "needs(-1)", "needs(6)");
        due.changeNothing(falls, Edges.STATE, "needs(0)", "needs(5)");
        due.changeNothing(falls, 0, "needs(1)");
    }

    private void orderAnswers() {
        due.says(24, "ORDER of a set of CASES: the i-th; NONE: there is none.");
        Edges.Making making = () -> Nets.weighted(3, -4, 3, 2, 1, 0, -3);
        due.changesNothing(making, "order(3, 0)", 1);
        due.changesNothing(making, "order(3, 1)", 0);
        due.changesNothing(making, "order(1, 0)", Edges.NONE);
        due.changesNothing(making, "order(32, 0)", 5);
        due.changesNothing(making, "order(63, 5)", 5);
        due.changesNothing(making, "order(33, 1)", Edges.NONE);
        Nets.isOrder(due, making.make(), 63, 1, 0, 2, 3, 4, 5);
        Nets.isOrder(due, making.make(), 34, 1, 5);
    }

    private void orderOutside() {
        due.says(24, "OUTSIDE: set (none, too);");
        due.changeNothing(Made::full, Edges.OUTSIDE, "order(0, 0)", "order(64, 0)", "order(-1, 0)", "order(0, -1)",
            "order(64, 9)", "order(65, 0)", "order(-2147483648, 0)");
        due.changeNothing(Nets::looseGable, Edges.OUTSIDE, "order(0, 0)", "order(64, 0)");
        due.is(new SkinLoads(), "order(1, 0)", 0);
        due.is(new SkinLoads(), "order(63, 0)", 0);
    }

    private void orderUnknown() {
        due.says(24, "UNKNOWN: i;");
        due.changeNothing(Made::full, Edges.UNKNOWN, "order(1, -1)", "order(1, 1)", "order(63, 6)", "order(63, -1)",
            "order(40, 2)");
        due.changeNothing(Nets::looseGable, Edges.UNKNOWN, "order(1, 1)", "order(3, 2)", "order(63, -1)");
        due.changeNothing(Made::fresh, Edges.UNKNOWN, "order(63, 6)", "order(32, 1)");
        due.is(new SkinLoads(), "order(63, 5)", 5);
        due.is(new SkinLoads(), "order(40, 1)", 5);
    }

    private void orderState() {
        due.says(24, "STATE: as push(), of one of them.");
        due.changeNothing(Nets::looseGable, Edges.STATE, "order(1, 0)", "order(3, 1)", "order(32, 0)");
        Edges.Making one = () -> {
            SkinLoads x = Nets.jointsOf(0, 0, 0);
            x.load(3, 0, 1, 0);
            return x;
        };
        due.changeNothing(one, Edges.STATE, "order(8, 0)", "order(9, 0)", "order(63, 5)", "order(24, 1)");
        due.changesNothing(one, "order(55, 4)", 5);
        due.changesNothing(one, "order(1, 0)", 0);
    }
}

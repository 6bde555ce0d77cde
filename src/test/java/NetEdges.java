/** The sentences about the net, and promises 13 to 24. */
final class NetEdges {
    private final Edges due;

    NetEdges(Edges due) {
        this.due = due;
    }

    void all() {
        eightJoints();
        places();
        freeJoints();
        sixteenBars();
        oneBetween();
        kinds();
        strengths();
        cutOrNot();
        cases();
        carry();
        rank();
        moves();
        loose();
        stand();
        told();
        theMove();
        moveInLeastTerms();
        gives();
        limits();
        givesFirst();
        orders();
        jointAnswers();
        jointOutside();
        jointState();
        jointFull();
        barAnswers();
        barUnknown();
        barOutside();
        barState();
        barFull();
        cutAnswers();
        cutRefused();
        aboutAnswers();
        aboutRefused();
        loadAnswers();
        loadRefused();
        netAnswers();
        netRefused();
        moveAnswers();
        moveRefused();
        standsAnswers();
        standsRefused();
        pushAnswers();
        pushRefused();
        limitAnswers();
        limitRefused();
        needsAnswers();
        needsRefused();
        orderAnswers();
        orderOutside();
        orderUnknown();
        orderState();
    }

    /** JOINTS by threes: x, y, 1 if it is HELD. */
    private static SkinLoads jointsOf(int... rows) {
        SkinLoads x = new SkinLoads();
        for (int k = 0; k + 2 < rows.length; k += 3) {
            x.joint(rows[k], rows[k + 1], rows[k + 2] == 1);
        }
        return x;
    }

    /** BARS of the kind 0 by threes: a, b, STRENGTH. */
    private static SkinLoads bars(SkinLoads x, int... rows) {
        for (int k = 0; k + 2 < rows.length; k += 3) {
            x.bar(0, rows[k], rows[k + 1], rows[k + 2]);
        }
        return x;
    }

    /** A HELD JOINT (0), a FREE one (1), and a BAR between them. */
    private static SkinLoads arm(int x, int y) {
        return bars(jointsOf(0, 0, 1, x, y, 0), 0, 1, 5);
    }

    /** Two HELD JOINTS (0, 1), two FREE ones above them (2, 3), three BARS: it leans. */
    private static SkinLoads frame() {
        return bars(jointsOf(0, 0, 1, 4, 0, 1, 0, 3, 0, 4, 3, 0), 0, 2, 1, 1, 3, 1, 2, 3, 1);
    }

    private static SkinLoads heldJoints(int n) {
        SkinLoads x = new SkinLoads();
        for (int k = 0; k < n; k++) {
            x.joint(k % 6, k / 6, true);
        }
        return x;
    }

    /** BARS between the first pairs of eight JOINTS. */
    private static SkinLoads heldBars(int n) {
        SkinLoads x = heldJoints(8);
        int made = 0;
        for (int a = 0; a < 8; a++) {
            for (int b = a + 1; b < 8 && made < n; b++) {
                x.bar(made % 3, a, b, 1 + made);
                made++;
            }
        }
        return x;
    }

    /** A gable with a weight in each of some cases, as a push of each of its BARS. */
    private static SkinLoads weighted(int strength, int... pushes) {
        SkinLoads x = Made.gable(strength, strength);
        for (int c = 0; c < pushes.length; c++) {
            x.load(c, 2, 0, 4 * pushes[c]);
        }
        return x;
    }

    /** A gable with a third BAR between its HELD JOINTS: LOOSE is 1. */
    private static SkinLoads looseGable() {
        return bars(weighted(5, 1, 2), 0, 1, 5);
    }

    /** What net(0), net(1), net(2) answer. */
    private void isNet(SkinLoads x, int rank, int moves, int loose) {
        due.is(x, "net(0)", rank);
        due.is(x, "net(1)", moves);
        due.is(x, "net(2)", loose);
    }

    // ---- joints, bars, cases

    private void eightJoints() {
        due.says("Terms", "==== 3 THE NET: JOINTS, 8 ever, numbered as they come,");
        SkinLoads x = new SkinLoads();
        due.is(x, "many(2)", 0);
        for (int k = 0; k < 8; k++) {
            due.is(x, "joint(" + k % 6 + ", " + k / 6 + ", " + (k % 2 == 0) + ")", k);
            due.is(x, "many(2)", k + 1);
        }
        due.is(x, "joint(5, 5, true)", Edges.FULL);
        due.is(x, "many(2)", 8);
    }

    private void places() {
        due.says("Terms", "each at a place (x, y 0 .. 5; not two at one),");
        SkinLoads x = new SkinLoads();
        for (String place : new String[] {"-1, 0", "0, -1", "6, 5", "5, 6"}) {
            due.is(x, "joint(" + place + ", true)", Edges.OUTSIDE);
        }
        due.is(x, "joint(0, 0, true)", 0);
        due.is(x, "joint(5, 5, true)", 1);
        due.is(x, "joint(0, 5, false)", 2);
        due.is(x, "joint(5, 0, false)", 3);
        for (String place : new String[] {"0, 0", "5, 5", "0, 5", "5, 0"}) {
            due.is(x, "joint(" + place + ", true)", Edges.STATE);
            due.is(x, "joint(" + place + ", false)", Edges.STATE);
        }
        due.is(x, "many(2)", 4);
    }

    private void freeJoints() {
        due.says("Terms", "HELD or FREE (4 FREE ones ever).");
        SkinLoads x = new SkinLoads();
        for (int k = 0; k < 4; k++) {
            due.is(x, "many(3)", k);
            due.is(x, "joint(" + k + ", 0, false)", k);
        }
        due.is(x, "many(3)", 4);
        due.is(x, "joint(4, 0, false)", Edges.FULL);
        due.is(x, "joint(4, 0, true)", 4);
        due.is(x, "many(3)", 4);
        due.is(x, "load(0, 3, 1, 1)", 1);
        due.is(x, "load(0, 4, 1, 1)", Edges.STATE);
    }

    private void sixteenBars() {
        due.says("Terms", "BARS, 16 ever, numbered as they come,");
        SkinLoads x = heldJoints(8);
        int made = 0;
        for (int a = 0; a < 8; a++) {
            for (int b = a + 1; b < 8; b++) {
                due.is(x, "bar(0, " + a + ", " + b + ", 1)", made < 16 ? made : Edges.FULL);
                made++;
                due.is(x, "many(4)", Math.min(made, 16));
            }
        }
    }

    private void oneBetween() {
        due.says("Terms", "between two JOINTS (not two between the same),");
        SkinLoads x = bars(heldJoints(3), 0, 1, 1);
        due.is(x, "bar(0, 0, 1, 1)", Edges.STATE);
        due.is(x, "bar(0, 1, 0, 1)", Edges.STATE);
        due.is(x, "bar(0, 2, 2, 1)", Edges.OUTSIDE);
        x.cut(0, true);
        due.is(x, "bar(0, 0, 1, 1)", Edges.STATE);
        due.is(x, "bar(0, 2, 1, 1)", 1);
        due.is(x, "bar(0, 0, 2, 1)", 2);
    }

    private void kinds() {
        due.says("Terms", "of a kind: 0 BAR; 1 FLAT, a BAR; 2 BENT, a FLAT;");
        SkinLoads x = heldJoints(4);
        due.is(x, "bar(-1, 0, 1, 1)", Edges.OUTSIDE);
        due.is(x, "bar(3, 0, 1, 1)", Edges.OUTSIDE);
        for (int kind = 0; kind < 3; kind++) {
            due.is(x, "bar(" + kind + ", 0, " + (1 + kind) + ", 1)", kind);
            due.is(x, "about(" + kind + ", 0)", kind);
            for (int as = 0; as < 3; as++) {
                due.is(x, "as(" + kind + ", " + as + ")", as <= kind ? 1 : Edges.CAST);
            }
        }
    }

    private void strengths() {
        due.says("Terms", "with a STRENGTH (1 .. 999);");
        SkinLoads x = heldJoints(3);
        due.is(x, "bar(0, 0, 1, 0)", Edges.OUTSIDE);
        due.is(x, "bar(0, 0, 1, 1000)", Edges.OUTSIDE);
        due.is(x, "bar(0, 0, 1, 1)", 0);
        due.is(x, "bar(0, 0, 2, 999)", 1);
        due.is(x, "about(0, 3)", 1);
        due.is(x, "about(1, 3)", 999);
    }

    private void cutOrNot() {
        due.says("Terms", "CUT or not.");
        SkinLoads x = arm(3, 0);
        due.is(x, "about(0, 4)", 0);
        due.is(x, "net(0)", 1);
        x.cut(0, true);
        due.is(x, "about(0, 4)", 1);
        due.is(x, "net(0)", 0);
        x.cut(0, false);
        due.is(x, "about(0, 4)", 0);
        due.is(x, "net(0)", 1);
    }

    private void cases() {
        due.says("Terms", "CASES 0 .. 5: a LOAD (x, y: -30 .. 30 each; 0 at first) at each FREE JOINT.");
        SkinLoads x = new SkinLoads();
        x.joint(2, 2, false);
        for (int c = 0; c < 6; c++) {
            due.is(x, "stands(" + c + ")", 1);
        }
        due.is(x, "stands(-1)", Edges.UNKNOWN);
        due.is(x, "stands(6)", Edges.UNKNOWN);
        for (String load : new String[] {"-31, 0", "31, 0", "0, -31", "0, 31"}) {
            due.is(x, "load(0, 0, " + load + ")", Edges.OUTSIDE);
        }
        due.is(x, "stands(0)", 1);
        for (String load : new String[] {"-30, 0", "30, 0", "0, -30", "0, 30"}) {
            due.is(x, "load(5, 0, " + load + ")", 1);
            due.is(x, "stands(5)", 0);
        }
        due.is(x, "load(5, 0, 0, 0)", 1);
        due.is(x, "stands(5)", 1);
        SkinLoads y = Made.gable(9, 9);
        y.load(5, 2, 30, -30);
        due.is(y, "push(5, 1, 0)", -15);
        y.load(5, 2, -30, 30);
        due.is(y, "push(5, 1, 0)", 15);
        due.is(y, "push(4, 1, 0)", 0);
    }

    // ---- what carries

    private void carry() {
        due.says("Terms", "PUSHES q of BARS that are not CUT carry a LOAD, if at each FREE JOINT, for x and for y: the"
            + " sum, over BARS at it, of q times (the other end's less its own), and the LOAD, is 0.");
        SkinLoads x = arm(5, 0);
        x.load(0, 1, 30, 0);
        due.isShare(x, "push(0, 0)", 6, 1);
        SkinLoads near = arm(1, 0);
        near.load(0, 1, 30, 0);
        due.isShare(near, "push(0, 0)", 30, 1);
        x.load(0, 1, 30, 1);
        due.is(x, "stands(0)", 0);
        SkinLoads y = arm(0, 5);
        y.load(0, 1, 0, -30);
        due.isShare(y, "push(0, 0)", -6, 1);
        y.load(0, 1, 1, -30);
        due.is(y, "stands(0)", 0);
        SkinLoads chain = bars(jointsOf(0, 0, 1, 1, 0, 0, 3, 0, 0), 1, 0, 9, 1, 2, 9);
        chain.load(0, 2, 4, 0);
        due.isShare(chain, "push(0, 0)", 4, 1);
        due.isShare(chain, "push(0, 1)", 2, 1);
        chain.load(0, 1, -5, 0);
        due.isShare(chain, "push(0, 0)", -1, 1);
        chain.cut(0, true);
        due.is(chain, "stands(0)", 0);
        chain.load(0, 1, -4, 0);
        due.is(chain, "stands(0)", 1);
        due.isShare(chain, "push(0, 0)", 0, 1);
        due.isShare(chain, "push(0, 1)", 2, 1);
    }

    private void rank() {
        due.says("Terms", "RANK: how many of these rows (two for each FREE JOINT) can be had none of which comes of"
            + " others.");
        due.is(new SkinLoads(), "net(0)", 0);
        due.is(heldBars(16), "net(0)", 0);
        due.is(jointsOf(0, 0, 0), "net(0)", 0);
        due.is(arm(1, 4), "net(0)", 1);
        due.is(bars(jointsOf(0, 0, 1, 2, 2, 0, 5, 5, 1), 0, 1, 1, 1, 2, 1), "net(0)", 1);
        due.is(bars(jointsOf(0, 0, 1, 2, 2, 0, 5, 4, 1), 0, 1, 1, 1, 2, 1), "net(0)", 2);
        due.is(bars(jointsOf(0, 0, 1, 2, 2, 0, 5, 4, 1, 5, 0, 1), 0, 1, 1, 1, 2, 1, 1, 3, 1), "net(0)", 2);
        due.is(bars(jointsOf(0, 0, 0, 1, 0, 0, 0, 1, 0), 0, 1, 1, 0, 2, 1, 1, 2, 1), "net(0)", 3);
        due.is(Made.full(), "net(0)", 8);
    }

    private void moves() {
        due.says("Terms", "MOVES: twice FREE JOINTS less RANK;");
        due.is(new SkinLoads(), "net(1)", 0);
        due.is(jointsOf(0, 0, 1), "net(1)", 0);
        due.is(jointsOf(0, 0, 0), "net(1)", 2);
        due.is(jointsOf(0, 0, 0, 1, 0, 0, 2, 0, 0, 3, 0, 0), "net(1)", 8);
        due.is(arm(1, 4), "net(1)", 1);
        due.is(Made.gable(1, 1), "net(1)", 0);
        due.is(Made.full(), "net(1)", 0);
    }

    private void loose() {
        due.says("Terms", "LOOSE: BARS not CUT less RANK.");
        due.is(new SkinLoads(), "net(2)", 0);
        due.is(heldBars(16), "net(2)", 16);
        due.is(heldBars(1), "net(2)", 1);
        due.is(arm(1, 4), "net(2)", 0);
        due.is(looseGable(), "net(2)", 1);
        SkinLoads x = Made.full();
        due.is(x, "net(2)", 0);
        for (int b = 0; b < 16; b++) {
            x.cut(b, false);
        }
        due.is(x, "net(2)", 8);
        for (int b = 0; b < 16; b++) {
            x.cut(b, true);
        }
        isNet(x, 0, 8, 0);
    }

    private void stand() {
        due.says("Terms", "A CASE STANDS, if there are PUSHES that carry it.");
        SkinLoads x = arm(1, 2);
        due.is(x, "stands(0)", 1);
        x.load(0, 1, 15, 30);
        due.is(x, "stands(0)", 1);
        x.load(0, 1, -15, -30);
        due.is(x, "stands(0)", 1);
        x.load(0, 1, 15, 29);
        due.is(x, "stands(0)", 0);
        x.load(0, 1, 15, -30);
        due.is(x, "stands(0)", 0);
        due.is(x, "stands(1)", 1);
        due.is(looseGable(), "stands(1)", 1);
        SkinLoads apart = jointsOf(0, 0, 0, 1, 0, 0);
        bars(apart, 0, 1, 1);
        apart.load(0, 0, 5, 0);
        due.is(apart, "stands(0)", 0);
        apart.load(0, 1, -5, 0);
        due.is(apart, "stands(0)", 1);
    }

    private void told() {
        due.says("Terms", "They are told if LOOSE is 0.");
        SkinLoads x = looseGable();
        due.is(x, "push(0, 0, 0)", Edges.LOST);
        due.is(x, "push(0, 0, 1)", Edges.LOST);
        due.is(x, "push(5, 2, 0)", Edges.LOST);
        x.cut(2, true);
        due.isShare(x, "push(0, 0)", 1, 1);
        due.isShare(x, "push(0, 2)", 0, 1);
        x.cut(2, false);
        due.is(x, "push(0, 0, 0)", Edges.LOST);
    }

    private void theMove() {
        due.says("Terms", "THE MOVE, if MOVES is 1: the row of whole numbers (by FREE JOINTS x, y) which all such BARS"
            + " leave as long as they are at first: for each BAR the sum of (difference of places) times (difference of"
            + " moves), along x and y, is 0 (HELD ones move by 0);");
        isMove(arm(3, 0), 1, 0, 1);
        isMove(arm(0, 3), 1, 1, 0);
        isMove(frame(), 2, 1, 0, 1, 0);
        SkinLoads crooked = bars(jointsOf(0, 0, 1, 1, 2, 0, 4, 4, 0, 5, 1, 1), 0, 1, 1, 1, 2, 1, 3, 2, 1);
        isMove(crooked, 1, 22, -11, 12, 4);
        crooked.bar(0, 0, 2, 1);
        due.is(crooked, "move(1, 0)", Edges.LOST);
        crooked.cut(0, true);
        isMove(crooked, 1, 2, -3, 0, 0);
        crooked.cut(1, true);
        due.is(crooked, "move(1, 0)", Edges.LOST);
        SkinLoads second = bars(jointsOf(0, 0, 1, 4, 0, 1, 2, 2, 0, 5, 5, 0), 0, 2, 1, 1, 2, 1, 2, 3, 1);
        isMove(second, 2, 0, 0, 1, -1);
    }

    /** The moves of a JOINT and those behind it, x and y each. */
    private void isMove(SkinLoads x, int joint, int... want) {
        due.is(x, "net(1)", 1);
        for (int k = 0; k < want.length; k++) {
            due.is(x, "move(" + (joint + k / 2) + ", " + k % 2 + ")", want[k]);
        }
    }

    private void moveInLeastTerms() {
        due.says("Terms", "without a common divisor, the first that is not 0 above 0.");
        isMove(arm(2, 4), 1, 2, -1);
        isMove(arm(4, 2), 1, 1, -2);
        isMove(arm(5, 5), 1, 1, -1);
        isMove(arm(1, 1), 1, 1, -1);
        isMove(arm(5, 0), 1, 0, 1);
        isMove(bars(jointsOf(5, 0, 1, 3, 4, 0), 1, 0, 1), 1, 2, 1);
        isMove(bars(jointsOf(0, 5, 1, 0, 2, 0), 0, 1, 1), 1, 1, 0);
        isMove(bars(jointsOf(0, 0, 1, 3, 1, 0, 4, 3, 0, 5, 0, 1), 0, 1, 1, 1, 2, 1, 2, 3, 1), 1, 1, -3, -3, -1);
    }

    private void gives() {
        due.says("Terms", "GIVES: a BAR whose PUSH (its size) is above its STRENGTH.");
        due.is(weighted(2, 2), "order(1, 0)", 0);
        due.is(weighted(2, -2), "order(1, 0)", 0);
        due.is(weighted(2, 3), "order(1, 0)", Edges.NONE);
        due.is(weighted(2, -3), "order(1, 0)", Edges.NONE);
        SkinLoads x = Made.gable(2, 2);
        x.load(0, 2, 0, 9);
        due.is(x, "order(1, 0)", Edges.NONE);
        x.load(0, 2, 0, -9);
        due.is(x, "order(1, 0)", Edges.NONE);
        due.is(Made.gable(1, 9), "order(1, 0)", 0);
        for (int weak = 0; weak < 2; weak++) {
            SkinLoads y = Made.gable(weak == 0 ? 1 : 9, weak == 1 ? 1 : 9);
            y.load(0, 2, 0, 8);
            due.is(y, "order(1, 0)", Edges.NONE);
            y.load(0, 2, 0, 4);
            due.is(y, "order(1, 0)", 0);
        }
    }

    private void limits() {
        due.says("Terms", "LIMIT of a CASE: the greatest share of it by which none GIVES (NONE: all PUSHES are 0);");
        due.isShare(weighted(2, 2), "limit(0)", 1, 1);
        due.isShare(weighted(2, -2), "limit(0)", 1, 1);
        due.isShare(weighted(2, 3), "limit(0)", 2, 3);
        due.isShare(weighted(2, -4), "limit(0)", 1, 2);
        due.isShare(weighted(999, 1), "limit(0)", 999, 1);
        SkinLoads least = Made.gable(999, 999);
        least.load(0, 2, 0, 1);
        due.isShare(least, "limit(0)", 3996, 1);
        due.isShare(weighted(2, 0), "limit(0)", Edges.NONE, Edges.NONE);
        due.isShare(new SkinLoads(), "limit(0)", Edges.NONE, Edges.NONE);
        due.isShare(Made.gable(5, 2), "limit(5)", Edges.NONE, Edges.NONE);
        SkinLoads one = Made.gable(5, 1);
        one.load(0, 2, 20, 20);
        due.isShare(one, "limit(0)", 1, 2);
    }

    private void givesFirst() {
        due.says("Terms", "the BAR that GIVES first beyond (of several the least number).");
        due.is(weighted(2, 2), "limit(0, 2)", 0);
        SkinLoads x = Made.gable(5, 4);
        x.load(0, 2, 0, 8);
        due.is(x, "limit(0, 2)", 1);
        x.load(0, 2, 20, 20);
        due.is(x, "limit(0, 2)", 0);
        x.load(0, 2, 20, -20);
        due.is(x, "limit(0, 2)", 1);
        due.is(x, "limit(1, 2)", Edges.NONE);
        SkinLoads y = Made.gable(4, 2);
        y.load(0, 2, -2, 6);
        due.isShare(y, "push(0, 0)", 1, 1);
        due.isShare(y, "push(0, 1)", 2, 1);
        due.is(y, "limit(0, 2)", 1);
        SkinLoads z = Made.gable(1, 2);
        z.load(0, 2, -2, 6);
        due.is(z, "limit(0, 2)", 0);
    }

    private void isOrder(SkinLoads x, int set, int... want) {
        for (int i = 0; i < want.length; i++) {
            due.is(x, "order(" + set + ", " + i + ")", want[i]);
        }
    }

    private void orders() {
        due.says("Terms", "ORDER: a set of CASES, put on one behind the other, such that behind each none GIVES by all"
            + " that are on (PUSHES are of the sum): the first as a row.");
        isOrder(weighted(3, 1, 1, 1), 7, 0, 1, 2);
        isOrder(weighted(3, 1, 1, 2), 7, Edges.NONE, Edges.NONE, Edges.NONE);
        isOrder(weighted(3, -4, 3, 2), 3, 1, 0);
        isOrder(weighted(3, -4, 3, 2), 7, 1, 0, 2);
        isOrder(weighted(3, 1, 3, -5), 7, 1, 2, 0);
        isOrder(weighted(3, 2, 2, -2, -2), 15, 0, 2, 1, 3);
        isOrder(weighted(3, 5, -5), 3, Edges.NONE, Edges.NONE);
        isOrder(weighted(3), 63, 0, 1, 2, 3, 4, 5);
        isOrder(weighted(7, -7, -7, 7, -7, 7, 7), 63, 0, 2, 1, 4, 3, 5);
        isOrder(weighted(7, -7, -7, 7, -7, 7, 7), 42, 1, 5, 3);
    }

    // ---- promises 13 and 14

    private void jointAnswers() {
        due.says(13, "A JOINT: its number.");
        SkinLoads x = new SkinLoads();
        due.is(x, "joint(3, 4, false)", 0);
        due.is(x, "joint(6, 4, true)", Edges.OUTSIDE);
        due.is(x, "joint(3, 4, true)", Edges.STATE);
        due.is(x, "joint(4, 3, true)", 1);
        due.is(heldJoints(7), "joint(5, 5, true)", 7);
    }

    private void isRefused(Edges.Making making, int want, String... calls) {
        for (String call : calls) {
            due.changesNothing(making, call, want);
        }
    }

    private void jointOutside() {
        due.says(13, "OUTSIDE: place;");
        isRefused(Made::fresh, Edges.OUTSIDE, "joint(-1, 0, true)", "joint(0, -1, false)", "joint(6, 0, true)",
            "joint(0, 6, false)", "joint(2147483647, -2147483648, true)");
        isRefused(Made::full, Edges.OUTSIDE, "joint(6, 5, true)", "joint(5, 6, false)", "joint(-1, 5, false)",
            "joint(5, -1, true)");
    }

    private void jointState() {
        due.says(13, "STATE: there is one at it;");
        isRefused(() -> jointsOf(5, 0, 1, 0, 5, 0), Edges.STATE, "joint(5, 0, true)", "joint(5, 0, false)",
            "joint(0, 5, true)", "joint(0, 5, false)");
        isRefused(Made::full, Edges.STATE, "joint(0, 0, true)", "joint(3, 4, true)", "joint(3, 4, false)");
    }

    private void jointFull() {
        due.says(13, "FULL: JOINTS, FREE ones.");
        isRefused(Made::full, Edges.FULL, "joint(0, 1, true)", "joint(0, 1, false)");
        isRefused(() -> heldJoints(8), Edges.FULL, "joint(5, 5, true)", "joint(5, 5, false)");
        Edges.Making four = () -> jointsOf(0, 0, 0, 1, 0, 0, 2, 0, 0, 3, 0, 0);
        isRefused(four, Edges.FULL, "joint(5, 5, false)");
        due.is(four.make(), "joint(5, 5, true)", 4);
        due.is(heldJoints(7), "joint(5, 5, false)", 7);
    }

    private void barAnswers() {
        due.says(14, "A BAR: its number.");
        SkinLoads x = heldJoints(8);
        due.is(x, "bar(0, 7, 0, 1)", 0);
        due.is(x, "bar(0, 0, 7, 1)", Edges.STATE);
        due.is(x, "bar(3, 0, 6, 1)", Edges.OUTSIDE);
        due.is(x, "bar(2, 0, 6, 999)", 1);
        due.is(heldBars(15), "bar(1, 6, 7, 1)", 15);
    }

    private void barUnknown() {
        due.says(14, "UNKNOWN: JOINTS;");
        isRefused(Made::fresh, Edges.UNKNOWN, "bar(0, 0, 1, 1)", "bar(0, 0, 0, 1)");
        isRefused(() -> heldJoints(3), Edges.UNKNOWN, "bar(0, 3, 0, 1)", "bar(0, 0, 3, 1)", "bar(0, -1, 0, 1)",
            "bar(0, 0, -1, 1)", "bar(3, 3, 3, 0)", "bar(0, -1, -1, 1)");
        isRefused(Made::full, Edges.UNKNOWN, "bar(3, 8, 0, 0)", "bar(3, 0, 8, 0)", "bar(3, -1, 0, 0)", "bar(0, 0, 8, 1)");
    }

    private void barOutside() {
        due.says(14, "OUTSIDE: both are one, kind, strength;");
        isRefused(() -> bars(heldJoints(3), 0, 1, 1), Edges.OUTSIDE, "bar(0, 0, 0, 1)", "bar(0, 2, 2, 1)",
            "bar(-1, 0, 2, 1)", "bar(3, 0, 2, 1)", "bar(0, 0, 2, 0)", "bar(0, 0, 2, 1000)", "bar(0, 0, 2, -1)");
        isRefused(Made::full, Edges.OUTSIDE, "bar(0, 7, 7, 1)", "bar(-1, 0, 4, 1)", "bar(3, 0, 6, 1)", "bar(0, 0, 4, 0)",
            "bar(2, 0, 6, 1000)");
    }

    private void barState() {
        due.says(14, "STATE: there is one between them;");
        isRefused(() -> bars(heldJoints(3), 0, 1, 1, 2, 1, 1), Edges.STATE, "bar(0, 0, 1, 1)", "bar(0, 1, 0, 1)",
            "bar(1, 1, 2, 1)", "bar(2, 2, 1, 1)");
        isRefused(Made::full, Edges.STATE, "bar(0, 0, 4, 1)", "bar(0, 7, 6, 1)", "bar(0, 0, 1, 1)", "bar(0, 1, 0, 1)");
    }

    private void barFull() {
        due.says(14, "FULL.");
        isRefused(Made::full, Edges.FULL, "bar(0, 0, 6, 1)", "bar(2, 7, 1, 999)");
        isRefused(() -> heldBars(16), Edges.FULL, "bar(0, 6, 7, 1)");
    }

    // ---- promises 15 to 18

    private void cutAnswers() {
        due.says(15, "A BAR is CUT, or not: 1; 0: it was so.");
        SkinLoads x = heldBars(16);
        for (int b = 0; b < 16; b += 15) {
            due.is(x, "cut(" + b + ", false)", 0);
            due.is(x, "cut(" + b + ", true)", 1);
            due.is(x, "cut(" + b + ", true)", 0);
            due.is(x, "about(" + b + ", 4)", 1);
            due.is(x, "many(5)", 1);
            due.is(x, "cut(" + b + ", false)", 1);
            due.is(x, "about(" + b + ", 4)", 0);
            due.is(x, "many(5)", 0);
        }
        isRefused(Made::full, 0, "cut(0, false)", "cut(2, true)", "cut(15, false)");
    }

    private void cutRefused() {
        due.says(15, "UNKNOWN.");
        isRefused(Made::full, Edges.UNKNOWN, "cut(-1, true)", "cut(16, true)", "cut(16, false)");
        isRefused(Made::fresh, Edges.UNKNOWN, "cut(0, true)", "cut(0, false)");
        isRefused(() -> heldBars(3), Edges.UNKNOWN, "cut(3, true)");
    }

    private void aboutAnswers() {
        due.says(16, "Of a BAR: 0 kind, 1, 2 its JOINTS, 3 STRENGTH, 4 whether it is CUT (1, 0).");
        int[][] want = {{0, 0, 4, 20, 0}, {2, 0, 1, 22, 1}, {0, 6, 7, 35, 0}};
        int[] numbers = {0, 2, 15};
        for (int k = 0; k < 3; k++) {
            for (int what = 0; what < 5; what++) {
                due.changesNothing(Made::full, "about(" + numbers[k] + ", " + what + ")", want[k][what]);
            }
        }
        SkinLoads x = heldJoints(8);
        x.bar(1, 7, 3, 1);
        due.is(x, "about(0, 1)", 7);
        due.is(x, "about(0, 2)", 3);
    }

    private void aboutRefused() {
        due.says(16, "UNKNOWN; OUTSIDE.");
        isRefused(Made::full, Edges.UNKNOWN, "about(-1, 5)", "about(16, -1)", "about(16, 0)");
        isRefused(Made::fresh, Edges.UNKNOWN, "about(0, 0)");
        isRefused(() -> heldBars(3), Edges.UNKNOWN, "about(3, 0)");
        isRefused(Made::full, Edges.OUTSIDE, "about(0, -1)", "about(15, 5)");
    }

    private void loadAnswers() {
        due.says(17, "A LOAD at a JOINT in a CASE: 1.");
        SkinLoads x = Made.gable(9, 9);
        for (int c = 0; c < 6; c++) {
            due.is(x, "load(" + c + ", 2, 0, " + 4 * (c + 1) + ")", 1);
        }
        for (int c = 0; c < 6; c++) {
            due.isShare(x, "push(" + c + ", 0)", c + 1, 1);
        }
        due.is(x, "load(5, 2, 0, 24)", 1);
        due.isShare(x, "push(5, 1)", 6, 1);
        due.is(x, "load(0, 2, 8, 0)", 1);
        due.isShare(x, "push(0, 0)", 2, 1);
        due.isShare(x, "push(0, 1)", -2, 1);
        SkinLoads four = jointsOf(0, 0, 1, 1, 0, 0, 2, 0, 0, 3, 0, 0, 4, 0, 0);
        bars(four, 0, 1, 9, 1, 2, 9, 2, 3, 9, 3, 4, 9);
        due.is(four, "load(0, 4, 7, 0)", 1);
        for (int b = 0; b < 4; b++) {
            due.isShare(four, "push(0, " + b + ")", 7, 1);
        }
    }

    private void loadRefused() {
        due.says(17, "UNKNOWN; OUTSIDE; STATE: it is HELD.");
        isRefused(Made::full, Edges.UNKNOWN, "load(-1, 4, 31, 0)", "load(6, 4, 0, 31)", "load(0, -1, 31, 0)",
            "load(0, 8, 31, 0)", "load(6, 0, 0, 0)", "load(6, 4, 0, 0)", "load(0, 8, 0, 0)");
        isRefused(Made::fresh, Edges.UNKNOWN, "load(0, 0, 0, 0)");
        isRefused(Made::full, Edges.OUTSIDE, "load(0, 4, 31, 0)", "load(0, 4, -31, 0)", "load(0, 4, 0, 31)",
            "load(5, 7, 0, -31)", "load(0, 0, 31, 0)", "load(0, 3, 0, -31)");
        isRefused(Made::full, Edges.STATE, "load(0, 0, 0, 0)", "load(5, 3, 30, -30)");
    }

    private void netAnswers() {
        due.says(18, "Of THE NET: 0 RANK, 1 MOVES, 2 LOOSE.");
        isNet(new SkinLoads(), 0, 0, 0);
        isNet(looseGable(), 2, 0, 1);
        isNet(arm(2, 1), 1, 1, 0);
        isRefused(Made::full, 8, "net(0)");
        isRefused(Made::full, 0, "net(1)", "net(2)");
        SkinLoads x = Made.gable(1, 1);
        isNet(x, 2, 0, 0);
        x.cut(0, true);
        isNet(x, 1, 1, 0);
        x.joint(0, 5, false);
        isNet(x, 1, 3, 0);
        x.bar(0, 0, 1, 1);
        isNet(x, 1, 3, 1);
        x.bar(0, 0, 3, 1);
        isNet(x, 2, 2, 1);
    }

    private void netRefused() {
        due.says(18, "OUTSIDE.");
        isRefused(Made::full, Edges.OUTSIDE, "net(-1)", "net(3)");
        isRefused(Made::fresh, Edges.OUTSIDE, "net(-1)", "net(3)");
    }

    // ---- promises 19 to 22

    private void isLost(Edges.Making making, String... calls) {
        for (String call : calls) {
            due.changesNothing(making, call, Edges.LOST);
        }
    }

    private void moveAnswers() {
        due.says(19, "THE MOVE of a FREE JOINT, along x (way 0), y (1).");
        due.changesNothing(() -> arm(2, 4), "move(1, 0)", 2);
        due.changesNothing(() -> arm(2, 4), "move(1, 1)", -1);
        SkinLoads x = Made.full();
        x.cut(15, true);
        isMove(x, 4, 0, 0, 0, 0, 0, 0, 1, -2);
        x.cut(15, false);
        x.cut(0, true);
        isMove(x, 4, 1, 3, 0, 0, -3, -1, 4, -8);
    }

    private void moveRefused() {
        due.says(19, "LOST: UNKNOWN: JOINT; OUTSIDE: way; STATE: it is HELD, or MOVES is not 1.");
        isLost(() -> arm(2, 4), "move(-1, 0)", "move(2, 0)", "move(1, -1)", "move(1, 2)", "move(0, 0)", "move(0, 1)");
        isLost(NetEdges::frame, "move(2, -1)", "move(2, 2)", "move(3, -1)", "move(3, -2)", "move(3, 2)", "move(1, 1)");
        isLost(Made::fresh, "move(0, 0)");
        isLost(Made::full, "move(4, 0)", "move(8, 0)", "move(0, 0)");
        isLost(() -> jointsOf(0, 0, 0), "move(0, 0)");
        isLost(() -> Made.gable(1, 1), "move(2, 0)");
    }

    private void standsAnswers() {
        due.says(20, "Whether a CASE STANDS: 1, 0.");
        isRefused(Made::full, 1, "stands(0)", "stands(5)");
        isRefused(Made::fresh, 1, "stands(0)", "stands(5)");
        Edges.Making loaded = () -> {
            SkinLoads x = jointsOf(0, 0, 0);
            x.load(0, 0, 0, 1);
            x.load(5, 0, -1, 0);
            return x;
        };
        isRefused(loaded, 0, "stands(0)", "stands(5)");
        isRefused(loaded, 1, "stands(1)", "stands(4)");
    }

    private void standsRefused() {
        due.says(20, "UNKNOWN.");
        isRefused(Made::full, Edges.UNKNOWN, "stands(-1)", "stands(6)");
        isRefused(Made::fresh, Edges.UNKNOWN, "stands(-1)", "stands(6)");
    }

    private void pushAnswers() {
        due.says(21, "PUSH of a BAR in a CASE (0 by 1, if it is CUT).");
        SkinLoads x = Made.gable(9, 9);
        x.load(0, 2, 3, 0);
        due.isShare(x, "push(0, 0)", 3, 4);
        due.isShare(x, "push(0, 1)", -3, 4);
        due.isShare(x, "push(5, 1)", 0, 1);
        x.cut(1, true);
        x.load(0, 2, 4, 4);
        due.isShare(x, "push(0, 0)", 2, 1);
        due.isShare(x, "push(0, 1)", 0, 1);
        due.isShare(Made.full(), "push(0, 2)", 0, 1);
        due.isShare(Made.full(), "push(5, 14)", 0, 1);
        due.isShare(Made.full(), "push(0, 10)", -8, 1);
        due.isShare(Made.full(), "push(0, 15)", -15, 2);
    }

    private void pushRefused() {
        due.says(21, "LOST: UNKNOWN; OUTSIDE: which; STATE: it does not STAND, or LOOSE is not 0.");
        isLost(Made::full, "push(-1, 0, 0)", "push(6, 0, 0)", "push(0, -1, 0)", "push(0, 16, 0)", "push(0, 0, -1)",
            "push(0, 0, 2)");
        isLost(Made::fresh, "push(0, 0, 0)");
        isLost(NetEdges::looseGable, "push(0, 0, 0)", "push(0, 2, 1)", "push(5, 0, 0)");
        Edges.Making leaning = () -> {
            SkinLoads x = weighted(5, 1);
            x.cut(0, true);
            return x;
        };
        isLost(leaning, "push(0, 0, 0)", "push(0, 0, 1)", "push(0, 1, 0)");
        due.changesNothing(leaning, "push(1, 1, 1)", 1);
    }

    private void limitAnswers() {
        due.says(22, "LIMIT of a CASE: upper (what 0), lower (1), the BAR that GIVES first beyond (2; NONE of all three:"
            + " all PUSHES are 0).");
        Edges.Making making = () -> weighted(3, 0, 5, 1);
        for (int what = 0; what < 3; what++) {
            String last = ", " + what + ")";
            due.changesNothing(making, "limit(0" + last, Edges.NONE);
            due.changesNothing(making, "limit(1" + last, what == 0 ? 3 : what == 1 ? 5 : 0);
            due.changesNothing(making, "limit(2" + last, what == 0 ? 3 : what == 1 ? 1 : 0);
            due.changesNothing(making, "limit(5" + last, Edges.NONE);
            due.changesNothing(Made::fresh, "limit(0" + last, Edges.NONE);
        }
        SkinLoads cutOne = weighted(3, 0);
        cutOne.cut(0, true);
        cutOne.load(0, 2, -30, 30);
        due.isShare(cutOne, "limit(0)", 1, 5);
        due.is(cutOne, "limit(0, 2)", 1);
    }

    private void limitRefused() {
        due.says(22, "LOST: UNKNOWN; OUTSIDE; STATE: as push().");
        isLost(Made::full, "limit(-1, 0)", "limit(6, 0)", "limit(0, -1)", "limit(0, 3)");
        isLost(Made::fresh, "limit(6, 2)", "limit(0, 3)");
        isLost(NetEdges::looseGable, "limit(0, 0)", "limit(0, 1)", "limit(0, 2)", "limit(5, 2)");
        isLost(() -> {
            SkinLoads x = jointsOf(0, 0, 0);
            x.load(3, 0, 1, 0);
            return x;
        }, "limit(3, 0)", "limit(3, 1)", "limit(3, 2)");
    }

    // ---- promises 23 and 24

    private void needsAnswers() {
        due.says(23, "BARS without which (CUT, one alone) a CASE that STANDS would not, as bits.");
        due.changesNothing(Made::fresh, "needs(0)", 0);
        due.changesNothing(NetEdges::looseGable, "needs(0)", 3);
        due.changesNothing(NetEdges::looseGable, "needs(5)", 0);
        SkinLoads x = bars(jointsOf(0, 0, 1, 2, 0, 0, 5, 0, 1, 2, 5, 1), 0, 1, 1, 1, 2, 1, 1, 3, 1);
        x.load(0, 1, 7, 0);
        x.load(1, 1, 7, 7);
        due.is(x, "needs(0)", 0);
        due.is(x, "needs(1)", 4);
        x.cut(0, true);
        due.is(x, "needs(0)", 2);
        due.is(x, "needs(1)", 6);
        SkinLoads y = Made.full();
        for (int c = 0; c < 6; c++) {
            int want = 0;
            for (int b = 0; b < 16; b++) {
                want |= y.push(c, b, 0) != 0 ? 1 << b : 0;
            }
            due.is(y, "needs(" + c + ")", want);
        }
        due.is(y, "needs(0)", 1 << 15 | 1 << 10 | 1 << 7 | 1 << 6 | 1 << 4 | 1 << 3 | 1 << 1 | 1);
        for (int b = 0; b < 16; b++) {
            y.cut(b, false);
        }
        due.is(y, "needs(0)", 0);
    }

    private void needsRefused() {
        due.says(23, "UNKNOWN; STATE: it does not STAND.");
        Edges.Making falls = () -> {
            SkinLoads x = jointsOf(0, 0, 0);
            x.load(0, 0, 1, 0);
            x.load(5, 0, 0, 1);
            return x;
        };
        isRefused(falls, Edges.UNKNOWN, "needs(-1)", "needs(6)");
        isRefused(Made::full, Edges.UNKNOWN, "needs(-1)", "needs(6)");
        isRefused(falls, Edges.STATE, "needs(0)", "needs(5)");
        isRefused(falls, 0, "needs(1)");
    }

    private void orderAnswers() {
        due.says(24, "ORDER of a set of CASES: the i-th; NONE: there is none.");
        Edges.Making making = () -> weighted(3, -4, 3, 2, 1, 0, -3);
        due.changesNothing(making, "order(3, 0)", 1);
        due.changesNothing(making, "order(3, 1)", 0);
        due.changesNothing(making, "order(1, 0)", Edges.NONE);
        due.changesNothing(making, "order(32, 0)", 5);
        due.changesNothing(making, "order(63, 5)", 5);
        due.changesNothing(making, "order(33, 1)", Edges.NONE);
        isOrder(making.make(), 63, 1, 0, 2, 3, 4, 5);
        isOrder(making.make(), 34, 1, 5);
    }

    private void orderOutside() {
        due.says(24, "OUTSIDE: set (none, too);");
        isRefused(Made::full, Edges.OUTSIDE, "order(0, 0)", "order(64, 0)", "order(-1, 0)", "order(0, -1)", "order(64, 9)",
            "order(65, 0)", "order(-2147483648, 0)");
        isRefused(NetEdges::looseGable, Edges.OUTSIDE, "order(0, 0)", "order(64, 0)");
        due.is(new SkinLoads(), "order(1, 0)", 0);
        due.is(new SkinLoads(), "order(63, 0)", 0);
    }

    private void orderUnknown() {
        due.says(24, "UNKNOWN: i;");
        isRefused(Made::full, Edges.UNKNOWN, "order(1, -1)", "order(1, 1)", "order(63, 6)", "order(63, -1)", "order(40, 2)");
        isRefused(NetEdges::looseGable, Edges.UNKNOWN, "order(1, 1)", "order(3, 2)", "order(63, -1)");
        isRefused(Made::fresh, Edges.UNKNOWN, "order(63, 6)", "order(32, 1)");
        due.is(new SkinLoads(), "order(63, 5)", 5);
        due.is(new SkinLoads(), "order(40, 1)", 5);
    }

    private void orderState() {
        due.says(24, "STATE: as push(), of one of them.");
        isRefused(NetEdges::looseGable, Edges.STATE, "order(1, 0)", "order(3, 1)", "order(32, 0)");
        Edges.Making one = () -> {
            SkinLoads x = jointsOf(0, 0, 0);
            x.load(3, 0, 1, 0);
            return x;
        };
        isRefused(one, Edges.STATE, "order(8, 0)", "order(9, 0)", "order(63, 5)", "order(24, 1)");
        due.changesNothing(one, "order(55, 4)", 5);
        due.changesNothing(one, "order(1, 0)", 0);
    }
}

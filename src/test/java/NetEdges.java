/** The sentences about the net. */
final class NetEdges {
    private final Edges due;

    NetEdges(Edges due) {
        this.due = due;
    }

    void all() {
        eightJoints();
        places();
        freeJoints();
        sixteenBars();
        oneBetween();
        kinds();
        strengths();
        cutOrNot();
        cases();
        carry();
        rank();
        moves();
        loose();
        stand();
        told();
        theMove();
        moveInLeastTerms();
        gives();
        limits();
        givesFirst();
        orders();
    }

    // ---- joints, bars, cases

    private void eightJoints() {
        due.says("Terms", "==== 3 THE NET: JOINTS, 8 ever, numbered as they come,");
        SkinLoads x = new SkinLoads();
        due.is(x, "many(2)", 0);
        for (int k = 0; k < 8; k++) {
            due.is(x, "joint(" + k % 6 + ", " + k / 6 + ", " + (k % 2 == 0) + ")", k);
            due.is(x, "many(2)", k + 1);
        }
        due.is(x, "joint(5, 5, true)", Edges.FULL);
        due.is(x, "many(2)", 8);
    }

    private void places() {
        due.says("Terms", "each at a place (x, y 0 .. 5; not two at one),");
        SkinLoads x = new SkinLoads();
        for (String place : new String[] {"-1, 0", "0, -1", "6, 5", "5, 6"}) {
            due.is(x, "joint(" + place + ", true)", Edges.OUTSIDE);
        }
        due.is(x, "joint(0, 0, true)", 0);
        due.is(x, "joint(5, 5, true)", 1);
        due.is(x, "joint(0, 5, false)", 2);
        due.is(x, "joint(5, 0, false)", 3);
        for (String place : new String[] {"0, 0", "5, 5", "0, 5", "5, 0"}) {
            due.is(x, "joint(" + place + ", true)", Edges.STATE);
            due.is(x, "joint(" + place + ", false)", Edges.STATE);
        }
        due.is(x, "many(2)", 4);
    }

    private void freeJoints() {
        due.says("Terms", "HELD or FREE (4 FREE ones ever).");
        SkinLoads x = new SkinLoads();
        for (int k = 0; k < 4; k++) {
            due.is(x, "many(3)", k);
            due.is(x, "joint(" + k + ", 0, false)", k);
        }
        due.is(x, "many(3)", 4);
        due.is(x, "joint(4, 0, false)", Edges.FULL);
        due.is(x, "joint(4, 0, true)", 4);
        due.is(x, "many(3)", 4);
        due.is(x, "load(0, 3, 1, 1)", 1);
        due.is(x, "load(0, 4, 1, 1)", Edges.STATE);
    }

    private void sixteenBars() {
        due.says("Terms", "BARS, 16 ever, numbered as they come,");
        SkinLoads x = Nets.heldJoints(8);
        int made = 0;
        for (int a = 0; a < 8; a++) {
            for (int b = a + 1; b < 8; b++) {
                due.is(x, "bar(0, " + a + ", " + b + ", 1)", made < 16 ? made : Edges.FULL);
                made++;
                due.is(x, "many(4)", Math.min(made, 16));
            }
        }
    }

    private void oneBetween() {
        due.says("Terms", "between two JOINTS (not two between the same),");
        SkinLoads x = Nets.bars(Nets.heldJoints(3), 0, 1, 1);
        due.is(x, "bar(0, 0, 1, 1)", Edges.STATE);
        due.is(x, "bar(0, 1, 0, 1)", Edges.STATE);
        due.is(x, "bar(0, 2, 2, 1)", Edges.OUTSIDE);
        x.cut(0, true);
        due.is(x, "bar(0, 0, 1, 1)", Edges.STATE);
        due.is(x, "bar(0, 2, 1, 1)", 1);
        due.is(x, "bar(0, 0, 2, 1)", 2);
    }

    private void kinds() {
        due.says("Terms", "of a kind: 0 BAR; 1 FLAT, a BAR; 2 BENT, a FLAT;");
        SkinLoads x = Nets.heldJoints(4);
        due.is(x, "bar(-1, 0, 1, 1)", Edges.OUTSIDE);
        due.is(x, "bar(3, 0, 1, 1)", Edges.OUTSIDE);
        for (int kind = 0; kind < 3; kind++) {
            due.is(x, "bar(" + kind + ", 0, " + (1 + kind) + ", 1)", kind);
            due.is(x, "about(" + kind + ", 0)", kind);
            for (int as = 0; as < 3; as++) {
                due.is(x, "as(" + kind + ", " + as + ")", as <= kind ? 1 : Edges.CAST);
            }
        }
    }

    private void strengths() {
        due.says("Terms", "with a STRENGTH (1 .. 999);");
        SkinLoads x = Nets.heldJoints(3);
        due.is(x, "bar(0, 0, 1, 0)", Edges.OUTSIDE);
        due.is(x, "bar(0, 0, 1, 1000)", Edges.OUTSIDE);
        due.is(x, "bar(0, 0, 1, 1)", 0);
        due.is(x, "bar(0, 0, 2, 999)", 1);
        due.is(x, "about(0, 3)", 1);
        due.is(x, "about(1, 3)", 999);
    }

    private void cutOrNot() {
        due.says("Terms", "CUT or not.");
        SkinLoads x = Nets.arm(3, 0);
        due.is(x, "about(0, 4)", 0);
        due.is(x, "net(0)", 1);
        x.cut(0, true);
        due.is(x, "about(0, 4)", 1);
        due.is(x, "net(0)", 0);
        x.cut(0, false);
        due.is(x, "about(0, 4)", 0);
        due.is(x, "net(0)", 1);
    }

    private void cases() {
        due.says("Terms", "CASES 0 .. 5: a LOAD (x, y: -30 .. 30 each; 0 at first) at each FREE JOINT.");
        SkinLoads x = new SkinLoads();
        x.joint(2, 2, false);
        for (int c = 0; c < 6; c++) {
            due.is(x, "stands(" + c + ")", 1);
        }
        due.is(x, "stands(-1)", Edges.UNKNOWN);
        due.is(x, "stands(6)", Edges.UNKNOWN);
        for (String load : new String[] {"-31, 0", "31, 0", "0, -31", "0, 31"}) {
            due.is(x, "load(0, 0, " + load + ")", Edges.OUTSIDE);
        }
        due.is(x, "stands(0)", 1);
        for (String load : new String[] {"-30, 0", "30, 0", "0, -30", "0, 30"}) {
            due.is(x, "load(5, 0, " + load + ")", 1);
            due.is(x, "stands(5)", 0);
        }
        due.is(x, "load(5, 0, 0, 0)", 1);
        due.is(x, "stands(5)", 1);
        SkinLoads y = Nets.gable(9, 9);
        y.load(5, 2, 30, -30);
        due.is(y, "push(5, 1, 0)", -15);
        y.load(5, 2, -30, 30);
        due.is(y, "push(5, 1, 0)", 15);
        due.is(y, "push(4, 1, 0)", 0);
    }

    // ---- what carries

    private void carry() {
        due.says("Terms", "PUSHES q of BARS that are not CUT carry a LOAD, if at each FREE JOINT, for x and for y: the"
            + " sum, over BARS at it, of q times (the other end's less its own), and the LOAD, is 0.");
        SkinLoads x = Nets.arm(5, 0);
        x.load(0, 1, 30, 0);
        due.isShare(x, "push(0, 0)", 6, 1);
        SkinLoads near = Nets.arm(1, 0);
        near.load(0, 1, 30, 0);
        due.isShare(near, "push(0, 0)", 30, 1);
        x.load(0, 1, 30, 1);
        due.is(x, "stands(0)", 0);
        SkinLoads y = Nets.arm(0, 5);
        y.load(0, 1, 0, -30);
        due.isShare(y, "push(0, 0)", -6, 1);
        y.load(0, 1, 1, -30);
        due.is(y, "stands(0)", 0);
        SkinLoads chain = Nets.bars(Nets.jointsOf(0, 0, 1, 1, 0, 0, 3, 0, 0), 1, 0, 9, 1, 2, 9);
        chain.load(0, 2, 4, 0);
        due.isShare(chain, "push(0, 0)", 4, 1);
        due.isShare(chain, "push(0, 1)", 2, 1);
        chain.load(0, 1, -5, 0);
        due.isShare(chain, "push(0, 0)", -1, 1);
        chain.cut(0, true);
        due.is(chain, "stands(0)", 0);
        chain.load(0, 1, -4, 0);
        due.is(chain, "stands(0)", 1);
        due.isShare(chain, "push(0, 0)", 0, 1);
        due.isShare(chain, "push(0, 1)", 2, 1);
    }

    private void rank() {
        due.says("Terms", "RANK: how many of these rows (two for each FREE JOINT) can be had none of which comes of"
            + " others.");
        due.is(new SkinLoads(), "net(0)", 0);
        due.is(Nets.heldBars(16), "net(0)", 0);
        due.is(Nets.jointsOf(0, 0, 0), "net(0)", 0);
        due.is(Nets.arm(1, 4), "net(0)", 1);
        due.is(Nets.bars(Nets.jointsOf(0, 0, 1, 2, 2, 0, 5, 5, 1), 0, 1, 1, 1, 2, 1), "net(0)", 1);
        due.is(Nets.bars(Nets.jointsOf(0, 0, 1, 2, 2, 0, 5, 4, 1), 0, 1, 1, 1, 2, 1), "net(0)", 2);
        due.is(Nets.bars(Nets.jointsOf(0, 0, 1, 2, 2, 0, 5, 4, 1, 5, 0, 1), 0, 1, 1, 1, 2, 1, 1, 3, 1), "net(0)", 2);
        due.is(Nets.bars(Nets.jointsOf(0, 0, 0, 1, 0, 0, 0, 1, 0), 0, 1, 1, 0, 2, 1, 1, 2, 1), "net(0)", 3);
        due.is(Made.full(), "net(0)", 8);
    }

    private void moves() {
        due.says("Terms", "MOVES: twice FREE JOINTS less RANK;");
        due.is(new SkinLoads(), "net(1)", 0);
        due.is(Nets.jointsOf(0, 0, 1), "net(1)", 0);
        due.is(Nets.jointsOf(0, 0, 0), "net(1)", 2);
        due.is(Nets.jointsOf(0, 0, 0, 1, 0, 0, 2, 0, 0, 3, 0, 0), "net(1)", 8);
        due.is(Nets.arm(1, 4), "net(1)", 1);
        due.is(Nets.gable(1, 1), "net(1)", 0);
        due.is(Made.full(), "net(1)", 0);
    }

    private void loose() {
        due.says("Terms", "LOOSE: BARS not CUT less RANK.");
        due.is(new SkinLoads(), "net(2)", 0);
        due.is(Nets.heldBars(16), "net(2)", 16);
        due.is(Nets.heldBars(1), "net(2)", 1);
        due.is(Nets.arm(1, 4), "net(2)", 0);
        due.is(Nets.looseGable(), "net(2)", 1);
        SkinLoads x = Made.full();
        due.is(x, "net(2)", 0);
        for (int b = 0; b < 16; b++) {
            x.cut(b, false);
        }
        due.is(x, "net(2)", 8);
        for (int b = 0; b < 16; b++) {
            x.cut(b, true);
        }
        Nets.isNet(due, x, 0, 8, 0);
    }

    private void stand() {
        due.says("Terms", "A CASE STANDS, if there are PUSHES that carry it.");
        SkinLoads x = Nets.arm(1, 2);
        due.is(x, "stands(0)", 1);
        x.load(0, 1, 15, 30);
        due.is(x, "stands(0)", 1);
        x.load(0, 1, -15, -30);
        due.is(x, "stands(0)", 1);
        x.load(0, 1, 15, 29);
        due.is(x, "stands(0)", 0);
        x.load(0, 1, 15, -30);
        due.is(x, "stands(0)", 0);
        due.is(x, "stands(1)", 1);
        due.is(Nets.looseGable(), "stands(1)", 1);
        SkinLoads apart = Nets.jointsOf(0, 0, 0, 1, 0, 0);
        Nets.bars(apart, 0, 1, 1);
        apart.load(0, 0, 5, 0);
        due.is(apart, "stands(0)", 0);
        apart.load(0, 1, -5, 0);
        due.is(apart, "stands(0)", 1);
    }

    private void told() {
        due.says("Terms", "They are told if LOOSE is 0.");
        SkinLoads x = Nets.looseGable();
        due.is(x, "push(0, 0, 0)", Edges.LOST);
        due.is(x, "push(0, 0, 1)", Edges.LOST);
        due.is(x, "push(5, 2, 0)", Edges.LOST);
        x.cut(2, true);
        due.isShare(x, "push(0, 0)", 1, 1);
        due.isShare(x, "push(0, 2)", 0, 1);
        x.cut(2, false);
        due.is(x, "push(0, 0, 0)", Edges.LOST);
    }

    private void theMove() {
        due.says("Terms", "THE MOVE, if MOVES is 1: the row of whole numbers (by FREE JOINTS x, y) which all such BARS"
            + " leave as long as they are at first: for each BAR the sum of (difference of places) times (difference of"
            + " moves), along x and y, is 0 (HELD ones move by 0);");
        Nets.isMove(due, Nets.arm(3, 0), 1, 0, 1);
        Nets.isMove(due, Nets.arm(0, 3), 1, 1, 0);
        Nets.isMove(due, Nets.frame(), 2, 1, 0, 1, 0);
        SkinLoads crooked = Nets.bars(Nets.jointsOf(0, 0, 1, 1, 2, 0, 4, 4, 0, 5, 1, 1), 0, 1, 1, 1, 2, 1, 3, 2, 1);
        Nets.isMove(due, crooked, 1, 22, -11, 12, 4);
        crooked.bar(0, 0, 2, 1);
        due.is(crooked, "move(1, 0)", Edges.LOST);
        crooked.cut(0, true);
        Nets.isMove(due, crooked, 1, 2, -3, 0, 0);
        crooked.cut(1, true);
        due.is(crooked, "move(1, 0)", Edges.LOST);
        SkinLoads second = Nets.bars(Nets.jointsOf(0, 0, 1, 4, 0, 1, 2, 2, 0, 5, 5, 0), 0, 2, 1, 1, 2, 1, 2, 3, 1);
        Nets.isMove(due, second, 2, 0, 0, 1, -1);
    }

    private void moveInLeastTerms() {
        due.says("Terms", "without a common divisor, the first that is not 0 above 0.");
        Nets.isMove(due, Nets.arm(2, 4), 1, 2, -1);
        Nets.isMove(due, Nets.arm(4, 2), 1, 1, -2);
        Nets.isMove(due, Nets.arm(5, 5), 1, 1, -1);
        Nets.isMove(due, Nets.arm(1, 1), 1, 1, -1);
        Nets.isMove(due, Nets.arm(5, 0), 1, 0, 1);
        Nets.isMove(due, Nets.bars(Nets.jointsOf(5, 0, 1, 3, 4, 0), 1, 0, 1), 1, 2, 1);
        Nets.isMove(due, Nets.bars(Nets.jointsOf(0, 5, 1, 0, 2, 0), 0, 1, 1), 1, 1, 0);
        Nets.isMove(due, Nets.bars(Nets.jointsOf(0, 0, 1, 3, 1, 0, 4, 3, 0, 5, 0, 1), 0, 1, 1, 1, 2, 1, 2, 3, 1), 1,
            1, -3, -3, -1);
    }

    private void gives() {
        due.says("Terms", "GIVES: a BAR whose PUSH (its size) is above its STRENGTH.");
        due.is(Nets.weighted(2, 2), "order(1, 0)", 0);
        due.is(Nets.weighted(2, -2), "order(1, 0)", 0);
        due.is(Nets.weighted(2, 3), "order(1, 0)", Edges.NONE);
        due.is(Nets.weighted(2, -3), "order(1, 0)", Edges.NONE);
        SkinLoads x = Nets.gable(2, 2);
        x.load(0, 2, 0, 9);
        due.is(x, "order(1, 0)", Edges.NONE);
        x.load(0, 2, 0, -9);
        due.is(x, "order(1, 0)", Edges.NONE);
        due.is(Nets.gable(1, 9), "order(1, 0)", 0);
        for (int weak = 0; weak < 2; weak++) {
            SkinLoads y = Nets.gable(weak == 0 ? 1 : 9, weak == 1 ? 1 : 9);
            y.load(0, 2, 0, 8);
            due.is(y, "order(1, 0)", Edges.NONE);
            y.load(0, 2, 0, 4);
            due.is(y, "order(1, 0)", 0);
        }
    }

    private void limits() {
        due.says("Terms", "LIMIT of a CASE: the greatest share of it by which none GIVES (NONE: all PUSHES are 0);");
        due.isShare(Nets.weighted(2, 2), "limit(0)", 1, 1);
        due.isShare(Nets.weighted(2, -2), "limit(0)", 1, 1);
        due.isShare(Nets.weighted(2, 3), "limit(0)", 2, 3);
        due.isShare(Nets.weighted(2, -4), "limit(0)", 1, 2);
        due.isShare(Nets.weighted(999, 1), "limit(0)", 999, 1);
        SkinLoads least = Nets.gable(999, 999);
        least.load(0, 2, 0, 1);
        due.isShare(least, "limit(0)", 3996, 1);
        due.isShare(Nets.weighted(2, 0), "limit(0)", Edges.NONE, Edges.NONE);
        due.isShare(new SkinLoads(), "limit(0)", Edges.NONE, Edges.NONE);
        due.isShare(Nets.gable(5, 2), "limit(5)", Edges.NONE, Edges.NONE);
        SkinLoads one = Nets.gable(5, 1);
        one.load(0, 2, 20, 20);
        due.isShare(one, "limit(0)", 1, 2);
    }

    private void givesFirst() {
        due.says("Terms", "the BAR that GIVES first beyond (of several the least number).");
        due.is(Nets.weighted(2, 2), "limit(0, 2)", 0);
        SkinLoads x = Nets.gable(5, 4);
        x.load(0, 2, 0, 8);
        due.is(x, "limit(0, 2)", 1);
        x.load(0, 2, 20, 20);
        due.is(x, "limit(0, 2)", 0);
        x.load(0, 2, 20, -20);
        due.is(x, "limit(0, 2)", 1);
        due.is(x, "limit(1, 2)", Edges.NONE);
        SkinLoads y = Nets.gable(4, 2);
        y.load(0, 2, -2, 6);
        due.isShare(y, "push(0, 0)", 1, 1);
        due.isShare(y, "push(0, 1)", 2, 1);
        due.is(y, "limit(0, 2)", 1);
        SkinLoads z = Nets.gable(1, 2);
        z.load(0, 2, -2, 6);
        due.is(z, "limit(0, 2)", 0);
    }

    private void orders() {
        due.says("Terms", "ORDER: a set of CASES, put on one behind the other, such that behind each none GIVES by all"
            + " that are on (PUSHES are of the sum): the first as a row.");
        Nets.isOrder(due, Nets.weighted(3, 1, 1, 1), 7, 0, 1, 2);
        Nets.isOrder(due, Nets.weighted(3, 1, 1, 2), 7, Edges.NONE, Edges.NONE, Edges.NONE);
        Nets.isOrder(due, Nets.weighted(3, -4, 3, 2), 3, 1, 0);
        Nets.isOrder(due, Nets.weighted(3, -4, 3, 2), 7, 1, 0, 2);
        Nets.isOrder(due, Nets.weighted(3, 1, 3, -5), 7, 1, 2, 0);
        Nets.isOrder(due, Nets.weighted(3, 2, 2, -2, -2), 15, 0, 2, 1, 3);
        Nets.isOrder(due, Nets.weighted(3, 5, -5), 3, Edges.NONE, Edges.NONE);
        Nets.isOrder(due, Nets.weighted(3), 63, 0, 1, 2, 3, 4, 5);
        Nets.isOrder(due, Nets.weighted(7, -7, -7, 7, -7, 7, 7), 63, 0, 2, 1, 4, 3, 5);
        Nets.isOrder(due, Nets.weighted(7, -7, -7, 7, -7, 7, 7), 42, 1, 5, 3);
    }
}

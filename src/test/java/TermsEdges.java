/** What binds all calls: refusals, faults, shares, sets; a new object; how long an object is good for. */
final class TermsEdges {
    private final Edges due;

    TermsEdges(Edges due) {
        this.due = due;
    }

    void all() {
        refusalsInOrder();
        refusalsChangeNothing();
        numbersOfFaults();
        indexOfCells();
        sizes();
        firstFault();
        answersOfFaults();
        none();
        shares();
        sets();
        newObject();
        lastCall();
    }

    private static SkinLoads loose() {
        SkinLoads x = Nets.gable(1, 1);
        x.bar(0, 0, 1, 1);
        return x;
    }

    /** Each call is wrong in all that is told behind its answer, too. */
    private void refusalsInOrder() {
        due.says("Terms", "REFUSALS, in the order in which a call's line tells them: UNKNOWN (there is no such PANEL,"
            + " JOINT, BAR, CASE, SIGHT, SHEET, place), OUTSIDE (another number is not as told), STATE (as told), FULL;");
        String[][] rows = {
            {"text(4, 3, -1, -1)", "text(0, 3, -1, -1)", "panel(8, 6)", "panel(7, 6)"},
            {"spring(5, 21)", "spring(4, 21)", "about(16, 5)", "about(15, 5)"},
            {"bar(3, 8, 8, 0)", "bar(3, 4, 0, 0)", "load(6, 0, 31, 31)", "load(5, 0, 31, 31)"},
            {"sheet(4, 3, -1)", "sheet(0, 3, -1)", "as(16, 3)", "as(15, 3)"}};
        for (String[] row : rows) {
            due.is(Made.full(), row[0], Edges.UNKNOWN);
            due.is(Made.full(), row[1], Edges.OUTSIDE);
            due.is(Made.full(), row[2], Edges.UNKNOWN);
            due.is(Made.full(), row[3], Edges.OUTSIDE);
        }
        due.is(Made.full(), "bar(0, 4, 0, 1)", Edges.STATE);
        due.is(Made.full(), "bar(0, 6, 0, 1)", Edges.FULL);
        due.is(Made.full(), "load(0, 0, 30, 30)", Edges.STATE);
        due.is(Made.full(), "joint(6, 0, false)", Edges.OUTSIDE);
        due.is(Made.full(), "joint(2, 1, false)", Edges.STATE);
        due.is(Made.full(), "joint(1, 1, false)", Edges.FULL);
        due.is(Made.full(), "sight(0, 1, 1)", Edges.OUTSIDE);
        due.is(Made.full(), "sight(1, 1, 1)", Edges.FULL);
        due.is(Made.fresh(), "thick(0, 0)", Edges.OUTSIDE);
        due.is(Made.fresh(), "thick(1, 0)", Edges.UNKNOWN);
        due.is(loose(), "order(64, 9)", Edges.OUTSIDE);
        due.is(loose(), "order(63, 6)", Edges.UNKNOWN);
        due.is(loose(), "order(63, 5)", Edges.STATE);
        due.is(Made.full(), "quarrel(12, 0)", Edges.UNKNOWN);
        due.is(Made.full(), "stands(6)", Edges.UNKNOWN);
        due.is(Made.full(), "hole(10, 0, true)", Edges.UNKNOWN);
    }

    /** One refused call of each method that can refuse, ahead of what else the promises' own tests ask. */
    private void refusalsChangeNothing() {
        due.says("Terms", "they change nothing (but fault(), of a call that names FAULTS).");
        String[] leave = {"panel(8, 0)", "thick(1, 8)", "spring(5, 1)", "bar(0, 8, 0, 1)", "cut(16, true)", "about(16, 0)",
            "load(6, 4, 1, 1)", "stands(6)", "needs(6)", "hole(10, 0, true)", "quarrel(12, 0)", "lose(4)", "tell(16)",
            "sign(16)"};
        for (String call : leave) {
            due.changesNothing(Made::full, call, Edges.UNKNOWN);
        }
        String[] outside = {"rib(6)", "folds(0, 0)", "fold(0, 0)", "bound(0)", "net(3)", "skin(5)", "sight(0, 0, 0)",
            "many(7)", "order(0, 0)", "joint(6, 0, true)"};
        for (String call : outside) {
            due.changesNothing(Made::full, call, Edges.OUTSIDE);
        }
        String[] lost = {"thrust(8, 0)", "pull(8, 0)", "poly(5)", "move(8, 0)", "push(6, 0, 0)", "limit(6, 0)",
            "span(0, 0, 0)"};
        for (String call : lost) {
            due.changesNothing(Made::full, call, Edges.LOST);
        }
        String[] named = {"text(4, 0, 0, 0)", "sheet(4, 0, 0)", "put(4, 0, 0)", "as(16, 0)"};
        for (String call : named) {
            due.changesNothingBut(Made::full, call, Edges.UNKNOWN, 0);
        }
        due.changesNothingBut(Made::full, "cell(4, 0, 0)", Edges.LOST, 0);
    }

    private void numbersOfFaults() {
        due.says("Terms", "FAULTS are the machine's: 1 NULL (there is nothing), 2 CAST (it is of another LANE, kind),");
        due.changesNothingBut(Made::full, "put(3, 0, 0)", -11, 1);
        due.changesNothingBut(Made::full, "text(3, 0, 0, 0)", -11, 1);
        due.changesNothingBut(Made::full, "cell(3, 0, 0)", Edges.LOST, 1);
        due.changesNothingBut(Made::full, "text(0, 1, 0, 0)", -12, 2);
        due.changesNothingBut(Made::full, "cell(0, 0, 2)", Edges.LOST, 2);
        due.changesNothingBut(Made::full, "as(0, 1)", -12, 2);
    }

    private void indexOfCells() {
        due.says("Terms", "3 INDEX (of cells from i on also where i is not 0 .. how many there are, if none of them is"
            + " taken, too),");
        due.changesNothingBut(Made::full, "put(0, 60, 0)", -13, 3);
        due.changesNothingBut(Made::full, "text(0, 0, -1, 0)", -13, 3);
        due.changesNothingBut(Made::full, "text(0, 0, 0, 0)", -100, 0);
        due.changesNothingBut(Made::full, "text(0, 0, 60, 0)", -100, 0);
        due.changesNothingBut(Made::full, "text(0, 0, 61, 0)", -13, 3);
        SkinLoads x = new SkinLoads();
        x.sheet(0, 0, 0);
        due.is(x, "text(0, 0, 0, 0)", -100);
        due.is(x, "text(0, 0, 1, 0)", -13);
        due.is(x, "text(0, 0, -1, 0)", -13);
        due.is(x, "text(0, 0, 0, 1)", -13);
    }

    private void sizes() {
        due.says("Terms", "4 SIZE (a length below 0).");
        due.changesNothingBut(Made::full, "sheet(0, 0, -1)", -14, 4);
        due.changesNothingBut(Made::full, "text(0, 0, 0, -1)", -14, 4);
        due.is(Made.full(), "sheet(0, 0, 0)", 1);
        due.is(Made.full(), "text(0, 0, 0, 0)", -100);
    }

    private void firstFault() {
        due.says("Terms", "Of a call the first that is come to, in the order told;");
        String[] calls = {"text(0, 1, -1, -1)", "text(0, 1, 61, 1)", "text(3, 1, -1, -1)", "text(3, 1, 61, 1)",
            "text(0, 0, -1, -1)", "text(0, 0, 61, -1)", "put(3, -1, 0)"};
        int[] faults = {2, 2, 1, 1, 4, 4, 1};
        for (int k = 0; k < calls.length; k++) {
            due.changesNothingBut(Made::full, calls[k], -10 - faults[k], faults[k]);
        }
        due.changesNothingBut(Made::full, "cell(0, 60, 1)", Edges.LOST, 2);
        due.changesNothingBut(Made::full, "cell(3, 60, 1)", Edges.LOST, 1);
    }

    private void answersOfFaults() {
        due.says("Terms", "it answers -10 less it (LOST, where a long is answered, as for refusals) and changes nothing;"
            + " fault() tells it.");
        String[] calls = {"put(3, 0, 0)", "as(1, 2)", "put(2, 2, 0)", "sheet(3, 0, -1)"};
        for (int fault = 1; fault <= 4; fault++) {
            due.changesNothingBut(Made::full, calls[fault - 1], -10 - fault, fault);
        }
        due.changesNothingBut(Made::full, "cell(2, 2, 2)", Long.MIN_VALUE, 3);
        due.changesNothingBut(Made::full, "cell(4, 2, 2)", Long.MIN_VALUE, 0);
        due.changesNothing(Made::full, "thrust(0, 2)", Long.MIN_VALUE);
    }

    private void none() {
        due.says("Terms", "NONE is -9.");
        due.holds("NONE", SkinLoads.NONE == -9);
        due.is(new SkinLoads(), "limit(0, 2)", -9);
        due.is(Made.full(), "thick(1, 0)", -9);
        SkinLoads x = Nets.gable(1, 1);
        x.load(0, 2, 0, 8);
        due.is(x, "order(1, 0)", -9);
    }

    private void shares() {
        due.says("Terms", "Shares are told as upper and lower number (above 0) in least terms.");
        SkinLoads x = Nets.gable(6, 6);
        x.load(0, 2, 0, -6);
        x.load(1, 2, 0, 6);
        due.isShare(x, "push(0, 0)", -3, 2);
        due.isShare(x, "push(1, 0)", 3, 2);
        due.isShare(x, "push(2, 0)", 0, 1);
        due.isShare(x, "limit(0)", 4, 1);
        x.sight(8, 0, 12);
        due.isShare(x, "span(1, 0)", 0, 1);
        due.isShare(x, "span(1, 1)", 3, 2);
        Due.readDome(x, "r4,6w3;r9,6;r0,8");
        due.isShare(x, "thrust(0)", 2, 1);
        due.isShare(x, "thrust(1)", 9, 2);
        due.isShare(x, "thrust(2)", 0, 1);
        due.isShare(x, "pull(0)", -5, 2);
        due.isShare(x, "pull(1)", 9, 2);
        due.isShare(x, "pull(2)", 0, 1);
    }

    private void sets() {
        due.says("Terms", "Sets are told as bits.");
        due.is(new SkinLoads(), "order(1, 0)", 0);
        due.is(new SkinLoads(), "order(32, 0)", 5);
        due.is(new SkinLoads(), "order(20, 1)", 4);
        SkinLoads x = new SkinLoads();
        for (int k = 0; k < 12; k++) {
            x.sight(1, 100 + k, 100 + k);
        }
        for (int k = 0; k < 12; k++) {
            due.isShare(x, "span(" + (1 << k) + ", 0)", 100 + k, 1);
        }
        SkinLoads y = Made.full();
        y.load(0, 4, 0, 0);
        y.load(0, 5, 0, 0);
        y.load(0, 6, 0, 0);
        y.load(0, 7, 0, 0);
        due.is(y, "needs(0)", 0);
        y.load(0, 7, 8, 4);
        due.is(y, "needs(0)", 1 << 10);
    }

    private void newObject() {
        due.says(1, "No PANELS; a RIB of two links; no JOINTS, BARS, LOADS, SIGHTS, SHEETS; no piece is taken out.");
        SkinLoads x = new SkinLoads();
        int[] many = {0, 2, 0, 0, 0, 0, 0};
        for (int what = 0; what < 7; what++) {
            due.is(x, "many(" + what + ")", many[what]);
        }
        for (String call : new String[] {"panel(0, 0)", "thick(1, -1)", "spring(2, 1)", "bar(0, 0, 0, 1)", "about(0, 0)",
            "cut(0, true)", "load(0, 0, 0, 0)", "quarrel(0, 0)", "tell(0)", "sign(0)", "as(0, 0)"}) {
            due.is(x, call, Edges.UNKNOWN);
        }
        due.is(x, "spring(1, 1)", 1);
        for (int k = 0; k < 4; k++) {
            due.is(x, "lose(" + k + ")", 0);
            due.is(x, "put(" + k + ", 0, 0)", Edges.NULL);
        }
        for (int place = 0; place < 100; place++) {
            due.is(x, "hole(" + place / 10 + ", " + place % 10 + ", false)", 0);
        }
        due.is(x, "skin(0)", 100);
        due.is(x, "most()", 0);
        due.is(x, "trace()", 0);
        due.is(new SkinLoads(), "fault()", 0);
        SkinLoads y = new SkinLoads();
        for (int k = 0; k < 4; k++) {
            y.joint(k, 0, false);
        }
        for (int c = 0; c < 6; c++) {
            due.is(y, "stands(" + c + ")", 1);
        }
    }

    /** 511 calls, and the 512th still answers and changes as the first would. */
    private void lastCall() {
        due.says("What it is", "An object is used for at most 512 calls after it has been made; what later calls answer"
            + " is free.");
        SkinLoads x = new SkinLoads();
        x.joint(0, 0, true);
        x.joint(1, 0, true);
        x.bar(2, 0, 1, 999);
        int trace = 0;
        for (int k = 4; k <= Edges.MOST_CALLS - 1; k++) {
            x.tell(0);
            trace = (((trace * 31 + 3) * 31 + 2) * 31 + 1) * 31 + 1;
        }
        due.is(x, "trace()", trace);
        SkinLoads y = new SkinLoads();
        for (int k = 1; k < Edges.MOST_CALLS; k++) {
            y.sheet(k % 4, k % 3, k % 61);
        }
        due.is(y, "put(3, 22, 300)", 1);
    }
}

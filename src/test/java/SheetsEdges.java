/** The sentences about sheets and bodies, and promises 31 to 40. */
final class SheetsEdges {
    private final Edges due;

    SheetsEdges(Edges due) {
        this.due = due;
    }

    void all() {
        fourSheets();
        lanes();
        trace();
        barsTelling();
        flatTelling();
        bentTelling();
        signed();
        sheetAnswers();
        sheetRefused();
        loseAnswers();
        loseRefused();
        putAnswers();
        putRefused();
        cellAnswers();
        cellRefused();
        cellFaults();
        tellAnswers();
        tellRefused();
        signAnswers();
        signRefused();
        asAnswers();
        asRefused();
        traceAnswers();
        faultAnswers();
        manyAnswers();
        manyRefused();
    }

    /** BARS 0 (BAR), 1 (FLAT), 2 (BENT) of the STRENGTHS 10, 20, 999. */
    private static SkinLoads threeBars() {
        SkinLoads x = new SkinLoads();
        x.joint(0, 0, true);
        x.joint(1, 0, true);
        x.joint(0, 1, true);
        x.bar(0, 0, 1, 10);
        x.bar(1, 0, 2, 20);
        x.bar(2, 1, 2, 999);
        return x;
    }

    private static SkinLoads threeCut() {
        SkinLoads x = threeBars();
        for (int b = 0; b < 3; b++) {
            x.cut(b, true);
        }
        return x;
    }

    /** What these numbers leave in TRACE, reckoned without a wrap and cut at last. */
    private static int traceOf(int... numbers) {
        java.math.BigInteger trace = java.math.BigInteger.ZERO;
        for (int number : numbers) {
            trace = trace.multiply(java.math.BigInteger.valueOf(31)).add(java.math.BigInteger.valueOf(number));
        }
        return trace.intValue();
    }

    /** Refused, or come to a FAULT, by a call that names FAULTS: fault() tells which, or 0. */
    private void isFault(Edges.Making making, long want, int fault, String... calls) {
        for (String call : calls) {
            due.changesNothingBut(making, call, want, fault);
        }
    }

    // ---- terms

    private void fourSheets() {
        due.says("Terms", "==== 6 SHEETS 0 .. 3 have nothing (at first), or a row of 0 .. 60 numbers (0 at first)");
        SkinLoads x = new SkinLoads();
        for (int k = 0; k < 4; k++) {
            due.is(x, "lose(" + k + ")", 0);
            due.is(x, "put(" + k + ", 0, 1)", Edges.NULL);
            due.is(x, "sheet(" + k + ", 2, 60)", 1);
            for (int i = 0; i < 60; i++) {
                due.is(x, "cell(" + k + ", " + i + ", 2)", 0);
            }
            due.is(x, "put(" + k + ", 59, 9)", 1);
            due.is(x, "put(" + k + ", 60, 9)", Edges.INDEX);
            due.is(x, "sheet(" + k + ", 2, 0)", 1);
            due.is(x, "put(" + k + ", 0, 9)", Edges.INDEX);
            due.is(x, "lose(" + k + ")", 1);
        }
        due.is(x, "lose(-1)", Edges.UNKNOWN);
        due.is(x, "lose(4)", Edges.UNKNOWN);
        due.is(x, "sheet(0, 0, 61)", Edges.OUTSIDE);
        due.is(x, "sheet(0, 0, -1)", Edges.SIZE);
    }

    private void lanes() {
        due.says("Terms", "of a LANE: 0 bytes, 1 shorts, 2 ints; what comes to a cell of it is cut to its LANE.");
        int[][] rows = {{127, 127, 127, 127}, {128, -128, 128, 128}, {-128, -128, -128, -128}, {-129, 127, -129, -129},
            {255, -1, 255, 255}, {256, 0, 256, 256}, {32767, -1, 32767, 32767}, {32768, 0, -32768, 32768},
            {-32768, 0, -32768, -32768}, {-32769, -1, 32767, -32769}, {65535, -1, -1, 65535}, {65536, 0, 0, 65536},
            {Integer.MAX_VALUE, -1, -1, Integer.MAX_VALUE}, {Integer.MIN_VALUE, 0, 0, Integer.MIN_VALUE}};
        for (int lane = 0; lane < 3; lane++) {
            SkinLoads x = new SkinLoads();
            x.sheet(0, lane, 1);
            for (int[] row : rows) {
                due.is(x, "put(0, 0, " + row[0] + ")", 1);
                due.is(x, "cell(0, 0, " + lane + ")", row[1 + lane]);
            }
        }
    }

    private void trace() {
        due.says("Terms", "TELLING of BARS by bodies that leave their number in TRACE (an int that wraps, 0 at first,"
            + " becomes 31 times it and the number) as they begin:");
        SkinLoads x = threeBars();
        due.is(x, "trace()", 0);
        int[] numbers = new int[0];
        for (int k = 0; k < 20; k++) {
            x.sign(k % 2 == 0 ? 2 : 1);
            numbers = java.util.Arrays.copyOf(numbers, k + 1);
            numbers[k] = k % 2 == 0 ? 5 : 4;
            due.is(x, "trace()", traceOf(numbers));
        }
        due.holds("it wraps below 0", traceOf(5, 4, 5, 4, 5, 4, 5) < 0 || traceOf(5, 4, 5, 4, 5, 4, 5, 4) < 0);
    }

    private void barsTelling() {
        due.says("Terms", "BAR (1): its STRENGTH.");
        SkinLoads x = threeBars();
        due.is(x, "tell(0)", 10);
        due.is(x, "trace()", 1);
        SkinLoads cut = threeCut();
        due.is(cut, "tell(0)", 10);
        due.is(cut, "trace()", 1);
    }

    private void flatTelling() {
        due.says("Terms", "FLAT (2): what BAR's gives, and 1000, if it is CUT.");
        SkinLoads x = threeBars();
        due.is(x, "tell(1)", 20);
        due.is(x, "trace()", traceOf(2, 1));
        SkinLoads cut = threeCut();
        due.is(cut, "tell(1)", 1020);
        due.is(cut, "trace()", traceOf(2, 1));
        cut.cut(1, false);
        due.is(cut, "tell(1)", 20);
    }

    private void bentTelling() {
        due.says("Terms", "BENT (3): what FLAT's gives, and what BAR's gives (FLAT's left out).");
        SkinLoads x = threeBars();
        due.is(x, "tell(2)", 1998);
        due.is(x, "trace()", traceOf(3, 2, 1, 1));
        SkinLoads cut = threeCut();
        due.is(cut, "tell(2)", 2998);
        due.is(cut, "trace()", traceOf(3, 2, 1, 1));
    }

    private void signed() {
        due.says("Terms", "SIGNED by a lent body (4): its number; BENT ones have their own (5): 70.");
        SkinLoads x = threeBars();
        due.is(x, "sign(1)", 1);
        due.is(x, "trace()", 4);
        due.is(x, "sign(0)", 0);
        due.is(x, "trace()", traceOf(4, 4));
        due.is(x, "sign(2)", 70);
        due.is(x, "trace()", traceOf(4, 4, 5));
        due.is(Made.full(), "sign(15)", 15);
        due.is(Made.full(), "sign(14)", 70);
    }

    // ---- promises 31 to 33

    private void sheetAnswers() {
        due.says(31, "A SHEET gets a new row: 1.");
        SkinLoads x = new SkinLoads();
        due.is(x, "sheet(0, 0, 60)", 1);
        due.is(x, "put(0, 59, 5)", 1);
        due.is(x, "sheet(3, 2, 60)", 1);
        due.is(x, "cell(0, 59, 0)", 5);
        due.is(x, "sheet(0, 0, 60)", 1);
        due.is(x, "cell(0, 59, 0)", 0);
        due.is(x, "sheet(0, 2, 59)", 1);
        due.is(x, "cell(0, 59, 2)", Edges.LOST);
        due.is(x, "fault()", 3);
        due.is(x, "cell(0, 58, 2)", 0);
        due.is(x, "cell(0, 58, 0)", Edges.LOST);
        due.is(x, "fault()", 2);
        due.is(x, "sheet(0, 1, 0)", 1);
        due.is(x, "fault()", 0);
        due.is(x, "lose(0)", 1);
        due.is(x, "sheet(0, 1, 1)", 1);
        due.is(x, "put(0, 0, 300)", 1);
        due.is(x, "cell(0, 0, 1)", 300);
        SkinLoads y = new SkinLoads();
        y.sheet(1, 0, 1);
        y.put(1, 0, 7);
        y.lose(1);
        y.sheet(1, 0, 1);
        due.is(y, "cell(1, 0, 0)", 0);
    }

    private void sheetRefused() {
        due.says(31, "UNKNOWN; OUTSIDE: lane, n above 60; SIZE.");
        isFault(Made::full, Edges.UNKNOWN, 0, "sheet(-1, 3, -1)", "sheet(4, 3, 61)", "sheet(4, 0, 1)", "sheet(-1, 0, -1)");
        isFault(Made::full, Edges.OUTSIDE, 0, "sheet(0, -1, -1)", "sheet(3, 3, -1)", "sheet(0, 0, 61)", "sheet(3, 2, 61)",
            "sheet(0, 3, 1)", "sheet(0, 0, 2147483647)");
        isFault(Made::full, Edges.SIZE, 4, "sheet(0, 0, -1)", "sheet(3, 2, -1)", "sheet(1, 1, -2147483648)");
        isFault(Made::fresh, Edges.SIZE, 4, "sheet(0, 0, -1)");
        isFault(Made::fresh, Edges.OUTSIDE, 0, "sheet(0, 0, 61)");
    }

    private void loseAnswers() {
        due.says(32, "A SHEET has nothing: 1; 0: it had nothing.");
        SkinLoads x = Made.full();
        for (int k = 0; k < 3; k++) {
            due.is(x, "lose(" + k + ")", 1);
            due.is(x, "fault()", 3);
            due.is(x, "lose(" + k + ")", 0);
        }
        due.is(x, "put(0, 0, 1)", Edges.NULL);
        due.is(x, "many(0)", 8);
        SkinLoads y = new SkinLoads();
        y.sheet(3, 0, 0);
        due.is(y, "lose(3)", 1);
        due.is(y, "lose(3)", 0);
        due.changeNothing(Made::full, 0, "lose(3)");
        due.changeNothing(Made::fresh, 0, "lose(0)", "lose(3)");
    }

    private void loseRefused() {
        due.says(32, "UNKNOWN.");
        due.changeNothing(Made::full, Edges.UNKNOWN, "lose(-1)", "lose(4)", "lose(2147483647)");
    }

    private void putAnswers() {
        due.says(33, "Cell i of a SHEET becomes v: 1.");
        SkinLoads x = Made.full();
        due.is(x, "put(0, 0, 1)", 1);
        due.is(x, "fault()", 0);
        due.is(x, "put(0, 59, 2)", 1);
        due.is(x, "put(2, 1, 3)", 1);
        due.is(x, "cell(0, 0, 0)", 1);
        due.is(x, "cell(0, 1, 0)", '0');
        due.is(x, "cell(0, 59, 0)", 2);
        due.is(x, "cell(2, 1, 2)", 3);
        due.is(x, "cell(2, 0, 2)", 70000);
        due.is(x, "cell(1, 0, 1)", 1000);
    }

    private void putRefused() {
        due.says(33, "UNKNOWN; NULL; INDEX.");
        isFault(Made::full, Edges.UNKNOWN, 0, "put(-1, 0, 1)", "put(4, 0, 1)", "put(4, -1, 1)");
        isFault(Made::full, Edges.NULL, 1, "put(3, 0, 1)", "put(3, -1, 1)", "put(3, 60, 1)");
        isFault(Made::full, Edges.INDEX, 3, "put(0, -1, 1)", "put(0, 60, 1)", "put(1, 3, 1)", "put(2, 2, 1)",
            "put(2, 2147483647, 1)", "put(2, -2147483648, 1)");
        isFault(Made::fresh, Edges.NULL, 1, "put(0, 0, 1)", "put(3, -1, 1)");
    }

    // ---- promise 34

    private void cellAnswers() {
        due.says(34, "Cell i of what a SHEET has, taken as a row of a LANE.");
        isFault(Made::full, 'r', 0, "cell(0, 0, 0)");
        isFault(Made::full, 0, 0, "cell(0, 59, 0)", "cell(1, 2, 1)");
        isFault(Made::full, 1000, 0, "cell(1, 0, 1)");
        isFault(Made::full, -5, 0, "cell(1, 1, 1)");
        isFault(Made::full, 70000, 0, "cell(2, 0, 2)");
        isFault(Made::full, -70000, 0, "cell(2, 1, 2)");
    }

    private void cellRefused() {
        due.says(34, "LOST: UNKNOWN, OUTSIDE: lane;");
        isFault(Made::full, Edges.LOST, 0, "cell(-1, 0, 0)", "cell(4, 0, 0)", "cell(0, 0, -1)", "cell(0, 0, 3)",
            "cell(0, 60, 3)", "cell(3, 0, 3)", "cell(4, 99, 9)");
        isFault(Made::fresh, Edges.LOST, 0, "cell(-1, 0, 0)", "cell(4, 0, 0)", "cell(0, 0, 3)");
    }

    private void cellFaults() {
        due.says(34, "FAULTS CAST (nothing is no CAST), NULL, INDEX.");
        isFault(Made::full, Edges.LOST, 2, "cell(0, 0, 1)", "cell(0, 0, 2)", "cell(1, 0, 0)", "cell(1, 0, 2)",
            "cell(2, 0, 0)", "cell(2, 0, 1)", "cell(0, -1, 1)", "cell(0, 60, 2)");
        isFault(Made::full, Edges.LOST, 1, "cell(3, 0, 0)", "cell(3, 0, 1)", "cell(3, 0, 2)", "cell(3, -1, 0)",
            "cell(3, 60, 1)");
        isFault(Made::full, Edges.LOST, 3, "cell(0, -1, 0)", "cell(0, 60, 0)", "cell(1, 3, 1)", "cell(2, 2, 2)",
            "cell(0, 2147483647, 0)", "cell(0, -2147483648, 0)");
        SkinLoads x = Made.full();
        x.lose(0);
        due.is(x, "cell(0, 0, 1)", Edges.LOST);
        due.is(x, "fault()", 1);
        x.sheet(0, 1, 0);
        due.is(x, "cell(0, 0, 0)", Edges.LOST);
        due.is(x, "fault()", 2);
        due.is(x, "cell(0, 0, 1)", Edges.LOST);
        due.is(x, "fault()", 3);
    }

    // ---- promises 35 to 38

    private void tellAnswers() {
        due.says(35, "TELLING of a BAR.");
        SkinLoads x = Made.full();
        int before = x.trace();
        due.is(x, "tell(0)", 20);
        due.is(x, "tell(15)", 35);
        due.is(x, "trace()", (before * 31 + 1) * 31 + 1);
        due.is(x, "tell(2)", 1044);
        due.is(x, "tell(4)", 24);
        due.is(x, "fault()", 3);
    }

    private void tellRefused() {
        due.says(35, "UNKNOWN.");
        due.changeNothing(Made::full, Edges.UNKNOWN, "tell(-1)", "tell(16)");
        due.changeNothing(Made::fresh, Edges.UNKNOWN, "tell(0)");
        due.changeNothing(SheetsEdges::threeBars, Edges.UNKNOWN, "tell(3)");
    }

    private void signAnswers() {
        due.says(36, "How it is SIGNED.");
        SkinLoads x = Made.full();
        int before = x.trace();
        due.is(x, "sign(0)", 0);
        due.is(x, "sign(15)", 15);
        due.is(x, "trace()", (before * 31 + 4) * 31 + 4);
        due.is(x, "sign(13)", 13);
        due.is(x, "sign(2)", 70);
        due.is(x, "fault()", 3);
    }

    private void signRefused() {
        due.says(36, "UNKNOWN.");
        due.changeNothing(Made::full, Edges.UNKNOWN, "sign(-1)", "sign(16)");
        due.changeNothing(Made::fresh, Edges.UNKNOWN, "sign(0)");
        due.changeNothing(SheetsEdges::threeBars, Edges.UNKNOWN, "sign(3)");
    }

    private void asAnswers() {
        due.says(37, "A BAR, taken as one of a kind: 1.");
        isFault(Made::full, 1, 0, "as(0, 0)", "as(1, 0)", "as(1, 1)", "as(2, 0)", "as(2, 1)", "as(2, 2)", "as(15, 0)");
    }

    private void asRefused() {
        due.says(37, "UNKNOWN; OUTSIDE; CAST: it is none (each is a BAR, too; a BENT one is FLAT).");
        isFault(Made::full, Edges.UNKNOWN, 0, "as(-1, 0)", "as(16, 0)", "as(16, 3)", "as(-1, -1)");
        isFault(Made::fresh, Edges.UNKNOWN, 0, "as(0, 0)", "as(0, 3)");
        isFault(Made::full, Edges.OUTSIDE, 0, "as(0, -1)", "as(0, 3)", "as(15, 3)", "as(2, 3)");
        isFault(Made::full, Edges.CAST, 2, "as(0, 1)", "as(0, 2)", "as(1, 2)", "as(15, 1)");
    }

    private void traceAnswers() {
        due.says(38, "TRACE.");
        due.changeNothing(Made::fresh, 0, "trace()");
        due.changeNothing(Made::full, traceOf(3, 2, 1, 1), "trace()");
        SkinLoads x = threeBars();
        for (int k = 0; k < 30; k++) {
            x.tell(2);
        }
        int[] numbers = new int[120];
        for (int k = 0; k < 120; k++) {
            numbers[k] = k % 4 == 0 ? 3 : k % 4 == 1 ? 2 : 1;
        }
        due.is(x, "trace()", traceOf(numbers));
    }

    // ---- promises 39 and 40

    private void faultAnswers() {
        due.says(39, "The FAULT of the latest call that names one: 0: it came to none, or was refused (0 ahead of any).");
        due.is(new SkinLoads(), "fault()", 0);
        String[] none = {"text(0, 0, 0, 52)", "text(0, 0, 0, 53)", "text(4, 0, 0, 52)", "text(0, 3, 0, 52)",
            "sheet(0, 0, 0)", "sheet(4, 0, 0)", "sheet(0, 0, 61)", "put(0, 0, 0)", "put(4, 0, 0)", "cell(0, 0, 0)",
            "cell(4, 0, 0)", "cell(0, 0, 3)", "as(0, 0)", "as(16, 0)", "as(0, 3)"};
        for (String call : none) {
            isFaultAfter(call, 0);
        }
        String[][] faults = {{"text(3, 0, 0, 0)", "put(3, 0, 0)", "cell(3, 0, 0)"},
            {"text(0, 1, 0, 0)", "cell(0, 0, 1)", "as(0, 1)"}, {"text(0, 0, 61, 0)", "put(0, 60, 0)", "cell(0, 60, 0)"},
            {"text(0, 0, 0, -1)", "sheet(0, 0, -1)"}};
        for (int fault = 1; fault <= 4; fault++) {
            for (String call : faults[fault - 1]) {
                isFaultAfter(call, fault);
                isFaultAfter("fault()", 3);
            }
        }
        SkinLoads x = new SkinLoads();
        String[] calls = {"put(0, 0, 0)", "sheet(0, 0, -1)", "sheet(0, 0, 0)", "put(0, 0, 0)", "cell(0, 0, 1)"};
        int[] want = {1, 4, 0, 3, 2};
        for (int k = 0; k < calls.length; k++) {
            Edges.answer(x, calls[k]);
            due.is(x, "fault()", want[k]);
            due.is(x, "fault()", want[k]);
        }
        namesNone();
    }

    private void isFaultAfter(String call, int fault) {
        SkinLoads x = Made.full();
        Edges.answer(x, call);
        due.is(x, "fault()", fault);
    }

    /** Calls that name no FAULT, taken and refused: fault() stays what it was. */
    private void namesNone() {
        String[] calls = {"panel(0, 0)", "panel(9, 0)", "thrust(0, 0)", "thrust(9, 0)", "pull(0, 0)", "pull(9, 0)",
            "thick(1, 0)", "thick(0, 0)", "rib(3)", "rib(1)", "spring(1, 2)", "spring(0, 2)", "poly(0)", "poly(9)",
            "folds(1, 1)", "folds(1, 0)", "fold(1, 1)", "fold(1, 0)", "bound(1)", "bound(0)", "joint(0, 0, true)",
            "joint(0, 1, true)", "joint(9, 9, true)", "bar(0, 0, 6, 1)", "bar(0, 9, 9, 1)", "cut(0, true)",
            "cut(99, true)", "about(0, 0)", "about(99, 0)", "load(0, 4, 1, 1)", "load(0, 0, 1, 1)", "net(0)", "net(9)",
            "move(4, 0)", "move(9, 9)", "stands(0)", "stands(9)", "push(0, 0, 0)", "push(9, 9, 9)", "limit(0, 0)",
            "limit(9, 9)", "needs(0)", "needs(9)", "order(1, 0)", "order(0, 0)", "hole(0, 0, true)", "hole(99, 0, true)",
            "skin(0)", "skin(9)", "sight(1, 0, 1)", "sight(0, 0, 1)", "quarrel(0, 1)", "quarrel(99, 0)", "most()",
            "span(1, 0, 0)", "span(0, 0, 0)", "lose(0)", "lose(3)", "lose(9)", "tell(0)", "tell(99)", "sign(0)",
            "sign(99)", "trace()", "many(0)", "many(9)"};
        for (String call : calls) {
            isFaultAfter(call, 3);
        }
    }

    private void manyAnswers() {
        due.says(40, "How many: 0 PANELS, 1 links, 2 JOINTS, 3 FREE ones, 4 BARS, 5 of them CUT, 6 SIGHTS.");
        int[] nothing = {0, 2, 0, 0, 0, 0, 0};
        int[] all = {8, 5, 8, 4, 16, 8, 12};
        for (int what = 0; what < 7; what++) {
            due.changesNothing(Made::fresh, "many(" + what + ")", nothing[what]);
            due.changesNothing(Made::full, "many(" + what + ")", all[what]);
        }
        due.is(threeBars(), "many(5)", 0);
        due.is(threeCut(), "many(5)", 3);
        due.is(threeCut(), "many(4)", 3);
        due.is(threeCut(), "many(3)", 0);
    }

    private void manyRefused() {
        due.says(40, "OUTSIDE.");
        due.changeNothing(Made::full, Edges.OUTSIDE, "many(-1)", "many(7)");
        due.changeNothing(Made::fresh, Edges.OUTSIDE, "many(-1)", "many(7)");
    }
}

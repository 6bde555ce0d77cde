/** Promises 1 and 31 to 40: a new object, sheets, faults, bodies of bars, counts. */
public final class SheetsTest {
    private static final Due due = new Due("SheetsTest");
    private static final long LOST = Due.LOST;

    public static void main(String[] args) {
        constants();
        newObject();
        sheets();
        lanes();
        faults();
        bodies();
        wraps();
        kinds();
        counts();
        apart();
        due.end();
    }

    private static void constants() {
        due.is("UNKNOWN", SkinLoads.UNKNOWN, -1);
        due.is("OUTSIDE", SkinLoads.OUTSIDE, -2);
        due.is("STATE", SkinLoads.STATE, -3);
        due.is("FULL", SkinLoads.FULL, -4);
        due.is("NONE", SkinLoads.NONE, -9);
        due.is("LOST", SkinLoads.LOST, Long.MIN_VALUE);
    }

    private static void newObject() {
        SkinLoads x = new SkinLoads();
        int[] want = {0, 2, 0, 0, 0, 0, 0};
        for (int what = 0; what < 7; what++) {
            due.is("many(" + what + ")", x.many(what), want[what]);
        }
        due.is("trace()", x.trace(), 0);
        due.is("fault()", x.fault(), 0);
        due.is("skin(0)", x.skin(0), 100);
        due.is("spring(1, 1)", x.spring(1, 1), 1);
        due.is("most()", x.most(), 0);
        for (int k = 0; k < 4; k++) {
            due.is("lose(" + k + ")", x.lose(k), 0);
        }
        x.joint(0, 0, false);
        for (int c = 0; c < 6; c++) {
            due.is("no LOADS", x.stands(c), 1);
        }
    }

    private static void sheets() {
        SkinLoads x = new SkinLoads();
        due.is("sheet(-1, 9, -1)", x.sheet(-1, 9, -1), SkinLoads.UNKNOWN);
        due.is("sheet(4, 9, -1)", x.sheet(4, 9, -1), SkinLoads.UNKNOWN);
        due.is("sheet(0, 3, -1)", x.sheet(0, 3, -1), SkinLoads.OUTSIDE);
        due.is("sheet(0, -1, -1)", x.sheet(0, -1, -1), SkinLoads.OUTSIDE);
        due.is("sheet(0, 0, 61)", x.sheet(0, 0, 61), SkinLoads.OUTSIDE);
        due.is("fault()", x.fault(), 0);
        due.is("sheet(0, 0, -1)", x.sheet(0, 0, -1), -14);
        due.is("fault()", x.fault(), 4);
        due.is("sheet(0, 0, MIN)", x.sheet(0, 0, Integer.MIN_VALUE), -14);
        due.is("lose(0): it got none", x.lose(0), 0);
        due.is("sheet(0, 0, 0)", x.sheet(0, 0, 0), 1);
        due.is("fault()", x.fault(), 0);
        due.is("put(0, 0, 1)", x.put(0, 0, 1), -13);
        due.is("sheet(0, 0, 60)", x.sheet(0, 0, 60), 1);
        due.is("put(0, 59, 7)", x.put(0, 59, 7), 1);
        due.is("cell(0, 59, 0)", x.cell(0, 59, 0), 7);
        due.is("cell(0, 60, 0)", x.cell(0, 60, 0), LOST);
        due.is("sheet(0, 0, -5) changes nothing", x.sheet(0, 0, -5), -14);
        due.is("cell(0, 59, 0)", x.cell(0, 59, 0), 7);
        due.is("a new row", x.sheet(0, 0, 60), 1);
        due.is("is of 0", x.cell(0, 59, 0), 0);
        due.is("lose(0)", x.lose(0), 1);
        due.is("lose(0)", x.lose(0), 0);
        due.is("lose(-1)", x.lose(-1), SkinLoads.UNKNOWN);
        due.is("lose(4)", x.lose(4), SkinLoads.UNKNOWN);
        due.is("put(0, 0, 1)", x.put(0, 0, 1), -11);
    }

    private static void lanes() {
        SkinLoads x = new SkinLoads();
        int[] numbers = {0, 127, 128, 255, 256, -128, -129, 32767, 32768, 65535, 65536, -32769,
            Integer.MAX_VALUE, Integer.MIN_VALUE};
        for (int lane = 0; lane < 3; lane++) {
            x.sheet(lane, lane, 14);
            for (int i = 0; i < 14; i++) {
                int v = numbers[i];
                due.is("put", x.put(lane, i, v), 1);
                long want = lane == 0 ? (byte) v : lane == 1 ? (short) v : v;
                due.is("cell of lane " + lane + ", " + v, x.cell(lane, i, lane), want);
            }
        }
    }

    private static void faults() {
        SkinLoads x = new SkinLoads();
        due.is("cell of nothing", x.cell(1, 0, 0), LOST);
        due.is("fault()", x.fault(), 1);
        due.is("refused: sheet", x.cell(4, 0, 0), LOST);
        due.is("fault()", x.fault(), 0);
        due.is("put on nothing", x.put(1, -1, 0), -11);
        due.is("fault()", x.fault(), 1);
        due.is("refused: lane", x.cell(1, 0, 3), LOST);
        due.is("fault()", x.fault(), 0);
        x.sheet(1, 1, 5);
        due.is("CAST ahead of INDEX", x.cell(1, 99, 0), LOST);
        due.is("fault()", x.fault(), 2);
        due.is("a call that names none", x.lose(9), SkinLoads.UNKNOWN);
        x.many(0);
        x.most();
        x.trace();
        x.hole(0, 0, true);
        due.is("fault() stays", x.fault(), 2);
        due.is("fault() stays", x.fault(), 2);
        due.is("INDEX", x.put(1, 5, 1), -13);
        due.is("fault()", x.fault(), 3);
        due.is("INDEX", x.put(1, -1, 1), -13);
        due.is("INDEX", x.put(1, Integer.MAX_VALUE, 1), -13);
        due.is("refused", x.put(-1, 0, 1), SkinLoads.UNKNOWN);
        due.is("fault()", x.fault(), 0);
        due.is("INDEX", x.cell(1, 5, 1), LOST);
        due.is("fault()", x.fault(), 3);
        due.is("cell", x.cell(1, 4, 1), 0);
        due.is("fault()", x.fault(), 0);
    }

    /** Joints 0 to 2 and bars 0 (BAR), 1 (FLAT), 2 (BENT) of strengths 10, 20, 30. */
    private static SkinLoads threeBars() {
        SkinLoads x = new SkinLoads();
        x.joint(0, 0, true);
        x.joint(1, 0, true);
        x.joint(0, 1, true);
        x.bar(0, 0, 1, 10);
        x.bar(1, 0, 2, 20);
        x.bar(2, 1, 2, 30);
        return x;
    }

    private static int traceOf(int... numbers) {
        int trace = 0;
        for (int number : numbers) {
            trace = 31 * trace + number;
        }
        return trace;
    }

    private static void bodies() {
        SkinLoads x = threeBars();
        due.is("tell(-1)", x.tell(-1), SkinLoads.UNKNOWN);
        due.is("tell(3)", x.tell(3), SkinLoads.UNKNOWN);
        due.is("sign(-1)", x.sign(-1), SkinLoads.UNKNOWN);
        due.is("sign(3)", x.sign(3), SkinLoads.UNKNOWN);
        due.is("trace()", x.trace(), 0);
        due.is("tell(0)", x.tell(0), 10);
        due.is("trace()", x.trace(), traceOf(1));
        due.is("tell(1)", x.tell(1), 20);
        due.is("trace()", x.trace(), traceOf(1, 2, 1));
        due.is("tell(2)", x.tell(2), 60);
        due.is("trace()", x.trace(), traceOf(1, 2, 1, 3, 2, 1, 1));
        for (int b = 0; b < 3; b++) {
            x.cut(b, true);
        }
        SkinLoads y = threeBars();
        due.is("sign(0)", y.sign(0), 0);
        due.is("trace()", y.trace(), traceOf(4));
        due.is("sign(1)", y.sign(1), 1);
        due.is("trace()", y.trace(), traceOf(4, 4));
        due.is("sign(2)", y.sign(2), 70);
        due.is("trace()", y.trace(), traceOf(4, 4, 5));
        due.is("tell(0), cut", x.tell(0), 10);
        due.is("tell(1), cut", x.tell(1), 1020);
        due.is("tell(2), cut", x.tell(2), 1060);
        due.is("trace()", x.trace(), traceOf(1, 2, 1, 3, 2, 1, 1, 1, 2, 1, 3, 2, 1, 1));
    }

    private static void wraps() {
        SkinLoads x = threeBars();
        int trace = 0;
        for (int k = 0; k < 100; k++) {
            x.sign(2);
            trace = 31 * trace + 5;
            due.is("trace()", x.trace(), trace);
        }
    }

    private static void kinds() {
        SkinLoads x = threeBars();
        int[][] want = {{1, -12, -12}, {1, 1, -12}, {1, 1, 1}};
        for (int b = 0; b < 3; b++) {
            for (int kind = 0; kind < 3; kind++) {
                due.is("as(" + b + ", " + kind + ")", x.as(b, kind), want[b][kind]);
                due.is("fault()", x.fault(), want[b][kind] == 1 ? 0 : 2);
            }
            x.as(0, 2);
            due.is("as(b, 3)", x.as(b, 3), SkinLoads.OUTSIDE);
            due.is("fault()", x.fault(), 0);
            due.is("as(b, -1)", x.as(b, -1), SkinLoads.OUTSIDE);
        }
        x.as(0, 2);
        due.is("as(3, 9)", x.as(3, 9), SkinLoads.UNKNOWN);
        due.is("fault()", x.fault(), 0);
        due.is("as(-1, 9)", x.as(-1, 9), SkinLoads.UNKNOWN);
        due.is("trace()", x.trace(), 0);
    }

    private static void counts() {
        SkinLoads x = threeBars();
        x.joint(5, 5, false);
        x.cut(1, true);
        x.cut(2, true);
        x.rib(4);
        x.sight(1, 1, 1);
        Due.readDome(x, "r1,1;r1,1");
        int[] want = {2, 4, 4, 1, 3, 2, 1};
        for (int what = 0; what < 7; what++) {
            due.is("many(" + what + ")", x.many(what), want[what]);
        }
        due.is("many(-1)", x.many(-1), SkinLoads.OUTSIDE);
        due.is("many(7)", x.many(7), SkinLoads.OUTSIDE);
    }

    /** Two objects share nothing. */
    private static void apart() {
        SkinLoads x = threeBars();
        SkinLoads y = new SkinLoads();
        x.sheet(0, 0, 3);
        x.tell(2);
        x.hole(0, 0, true);
        x.put(0, 9, 9);
        due.is("many(4)", y.many(4), 0);
        due.is("lose(0)", y.lose(0), 0);
        due.is("trace()", y.trace(), 0);
        due.is("fault()", y.fault(), 0);
        due.is("skin(0)", y.skin(0), 100);
    }
}

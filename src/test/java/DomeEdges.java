/** The sentences about the dome, and promises 2 to 6. */
final class DomeEdges {
    private final Edges due;

    DomeEdges(Edges due) {
        this.due = due;
    }

    void all() {
        items();
        out();
        down();
        weight();
        digits();
        codes();
        firstWrong();
        endsTooSoon();
        threeAtMost();
        notAsTold();
        weightAbove();
        thrusts();
        pulls();
        pushes();
        lengths();
        strengths();
        rowOfThickness();
        neighbours();
        noLess();
        leastSum();
        textBecomesDome();
        textIsWrong();
        textUnknown();
        textOutside();
        textFaults();
        panelAnswers();
        panelRefused();
        thrustAnswers();
        thrustRefused();
        pullAnswers();
        pullRefused();
        thickAnswers();
        thickNone();
        thickRefused();
    }

    /** The same item again and again, with ; between. */
    private static String times(int n, String item) {
        return (item + ";").repeat(n).substring(0, n * (item.length() + 1) - 1);
    }

    private static SkinLoads domeOf(String text) {
        SkinLoads x = new SkinLoads();
        Due.readDome(x, text);
        return x;
    }

    private void isOne(String text, int what, int want) {
        SkinLoads x = new SkinLoads();
        due.isText(x, text, 1);
        due.is(x, "panel(0, " + what + ")", want);
    }

    private void isWrong(String text, int place) {
        SkinLoads x = domeOf("r7,8w9");
        due.isText(x, text, -100 - place);
        due.is(x, "many(0)", 1);
        due.is(x, "panel(0, 2)", 9);
    }

    // ---- the text

    private void items() {
        due.says("Terms", "==== 1 THE DOME: PANELS 0 .. n - 1 from the top down (8 at most; none at first), by a TEXT:"
            + " one to eight items with ; between:");
        SkinLoads x = new SkinLoads();
        due.is(x, "many(0)", 0);
        due.is(x, "panel(0, 0)", Edges.UNKNOWN);
        due.isText(x, "", -100);
        due.isText(x, "r1,1", 1);
        due.isText(x, "r1,1;r2,1;r3,1", 3);
        due.is(x, "panel(0, 0)", 1);
        due.is(x, "panel(2, 0)", 3);
        SkinLoads y = new SkinLoads();
        due.isText(y, times(7, "r1,1") + ";r8,1", 8);
        due.is(y, "panel(7, 0)", 8);
        due.is(y, "panel(8, 0)", Edges.UNKNOWN);
        due.isText(y, times(9, "r1,1"), -139);
        due.is(y, "panel(7, 0)", 8);
        isWrong(";r1,1", 0);
        isWrong("r1,1;", 5);
        isWrong("r1,1;;r1,1", 5);
        isWrong("r1,1r1,1", 4);
        isWrong("r1,1,r1,1", 4);
    }

    private void out() {
        due.says("Terms", "r, a number (OUT, 0 .. 99), a comma,");
        isOne("r0,1", 0, 0);
        isOne("r99,1", 0, 99);
        isWrong("r100,1", 1);
        isWrong("r-1,1", 1);
        isWrong("1,1", 0);
        isWrong("r1w1", 2);
        isWrong("r11", 3);
    }

    private void down() {
        due.says("Terms", "a number (DOWN, 1 .. 99),");
        isOne("r0,1", 1, 1);
        isOne("r0,99", 1, 99);
        isWrong("r0,0", 3);
        isWrong("r0,100", 3);
        isWrong("r0,-1", 3);
        isWrong("r0,w1", 3);
    }

    private void weight() {
        due.says("Terms", "perhaps w and a number (WEIGHT, 0 .. 999; else 0).");
        isOne("r0,1w0", 2, 0);
        isOne("r0,1w999", 2, 999);
        isOne("r0,1", 2, 0);
        isWrong("r0,1w1000", 8);
        isWrong("r0,1w-1", 5);
        isWrong("r0,1w1w1", 6);
        isWrong("r0,1ww", 5);
        SkinLoads x = domeOf("r0,1w5;r0,1w6");
        due.isText(x, "r0,1;r0,1w7", 2);
        due.is(x, "panel(0, 2)", 0);
        due.is(x, "panel(1, 2)", 7);
    }

    private void digits() {
        due.says("Terms", "Numbers are of one to three digits, and no more than told.");
        isOne("r1,2w3", 2, 3);
        isOne("r01,02w03", 2, 3);
        isOne("r001,002w003", 2, 3);
        isOne("r001,002w003", 1, 2);
        isOne("r001,002w003", 0, 1);
        isWrong("r,2w3", 1);
        isWrong("r1,w3", 3);
        isWrong("r1,2w;", 5);
        isWrong("r0001,2w3", 4);
        isWrong("r1,0021w3", 6);
        isWrong("r1,2w0003", 8);
    }

    /** Each code's neighbours are not taken for it; the cells are ints, so that nothing is cut. */
    private void codes() {
        due.says("Terms", "(Codes: r 114, comma 44, w 119, ; 59, digits 48 .. 57.)");
        int[] right = {114, 48, 44, 57, 119, 57, 59, 114, 57, 44, 49};
        isCoded(right, 2);
        int[] places = {0, 2, 4, 6, 7, 9};
        for (int place : places) {
            for (int off : new int[] {-1, 1, 256, -256, 65536}) {
                int[] codes = right.clone();
                codes[place] += off;
                isCoded(codes, -100 - place);
            }
        }
        for (int place : new int[] {1, 3, 5, 8, 10}) {
            for (int code : new int[] {47, 58, 48 + 256, 57 - 256}) {
                int[] codes = right.clone();
                codes[place] = code;
                isCoded(codes, -100 - place);
            }
            for (int code = 49; code <= 57; code++) {
                int[] codes = right.clone();
                codes[place] = code;
                isCoded(codes, 2);
            }
        }
    }

    private void isCoded(int[] codes, int want) {
        SkinLoads x = new SkinLoads();
        x.sheet(0, 2, codes.length);
        for (int i = 0; i < codes.length; i++) {
            x.put(0, i, codes[i]);
        }
        due.is(x, "text(0, 2, 0, " + codes.length + ")", want);
    }

    private void firstWrong() {
        due.says("Terms", "FIRST WRONG: the place (from 0 on) of the first code with which no TEXT goes on;");
        isWrong("xr1,1", 0);
        isWrong("x1,1;x", 0);
        isWrong("r1,1x;x", 4);
        isWrong("r1,1w1x", 6);
        isWrong("r1,1;x1,1", 5);
        isWrong("r1,1;w1", 5);
        isWrong(times(8, "r1,1") + ";", 39);
        isWrong(times(8, "r1,1") + "x", 39);
        isWrong(times(8, "r1,1w1") + ";r1,1", 55);
        SkinLoads x = new SkinLoads();
        Due.write(x, 0, 0, "zzr1,1x");
        due.is(x, "text(0, 0, 2, 5)", -104);
    }

    private void endsTooSoon() {
        due.says("Terms", "how many codes there are, if it just ends too soon;");
        String whole = "r1,1w1;r2,2w2";
        int[] panels = {0, 0, 0, 0, 1, 0, 1, 0, 0, 0, 0, 2, 0, 2};
        for (int n = 0; n <= whole.length(); n++) {
            SkinLoads x = new SkinLoads();
            Due.write(x, 0, 0, whole);
            due.is(x, "text(0, 0, 0, " + n + ")", panels[n] > 0 ? panels[n] : -100 - n);
        }
    }

    private void threeAtMost() {
        due.says("Terms", "a number is read as all digits that stand there, three at most;");
        isOne("r099,1", 0, 99);
        isWrong("r0991,1", 4);
        isOne("r1,099", 1, 99);
        isWrong("r1,0991", 6);
        isOne("r1,1w999", 2, 999);
        isWrong("r1,1w9990", 8);
        isWrong("r0000,1", 4);
        isOne("r10,1", 0, 10);
    }

    private void notAsTold() {
        due.says("Terms", "if it is not as told, it is its first one.");
        isWrong("r100,1", 1);
        isWrong("r999,1", 1);
        isWrong("r1000,1", 1);
        isWrong("r1,000", 3);
        isWrong("r1,00", 3);
        isWrong("r1,0001", 3);
        isWrong("r1,100", 3);
        isWrong("r1,999", 3);
        isWrong("r1,1;r100,1", 6);
        isWrong("r1,1;r1,0", 8);
    }

    // ---- what comes of it

    private void weightAbove() {
        due.says("Terms", "V of a PANEL: WEIGHTS of it and all above.");
        SkinLoads x = domeOf("r1,1w1;r1,1w2;r1,1;r1,1w4");
        int[] want = {1, 3, 3, 7};
        for (int p = 0; p < 4; p++) {
            due.is(x, "panel(" + p + ", 3)", want[p]);
        }
        SkinLoads most = new SkinLoads();
        due.isText(most, times(6, "r0,1w999") + ";r0,1w9", 7);
        due.is(most, "panel(5, 3)", 5994);
        due.is(most, "panel(6, 3)", 6003);
        due.is(domeOf("r1,1"), "panel(0, 3)", 0);
    }

    private void thrusts() {
        due.says("Terms", "THRUST: V OUT by DOWN.");
        due.isShare(domeOf("r1,99w1"), "thrust(0)", 1, 99);
        due.isShare(domeOf("r99,1w999"), "thrust(0)", 98901, 1);
        due.isShare(domeOf("r6,4w5"), "thrust(0)", 15, 2);
        due.isShare(domeOf("r5,1w2;r3,7w1"), "thrust(1)", 9, 7);
        due.isShare(domeOf("r0,7w5"), "thrust(0)", 0, 1);
        due.isShare(domeOf("r7,5"), "thrust(0)", 0, 1);
    }

    private void pulls() {
        due.says("Terms", "PULL of the ring beneath a PANEL: its THRUST less that of the next one (beneath the last: its"
            + " THRUST).");
        SkinLoads x = domeOf("r1,2w1;r1,3;r4,3");
        due.isShare(x, "pull(0)", 1, 6);
        due.isShare(x, "pull(1)", -1, 1);
        due.isShare(x, "pull(2)", 4, 3);
        due.isShare(domeOf("r1,1w1"), "pull(0)", 1, 1);
        due.isShare(domeOf("r1,2w1;r2,3"), "pull(0)", -1, 6);
        due.isShare(domeOf("r1,1w2;r1,1"), "pull(0)", 0, 1);
        SkinLoads eight = domeOf(times(7, "r1,1w1") + ";r1,9");
        due.isShare(eight, "pull(6)", 56, 9);
        due.isShare(eight, "pull(7)", 7, 9);
        due.isShare(domeOf("r98,97;r99,98w999"), "pull(0)", -98901, 98);
    }

    private void pushes() {
        due.says("Terms", "PUSH: the greatest whole number whose square times DOWN DOWN is no more than V V (OUT OUT and"
            + " DOWN DOWN).");
        String[] texts = {"r3,4w4", "r3,4w3", "r24,7w7", "r24,7w6", "r1,1w1", "r1,1w5", "r0,5w7", "r9,1", "r0,99w999",
            "r99,1w999", "r1,99w1"};
        int[] want = {5, 3, 25, 21, 1, 7, 7, 0, 999, 98906, 1};
        for (int k = 0; k < texts.length; k++) {
            isOne(texts[k], 4, want[k]);
        }
        SkinLoads most = domeOf(times(6, "r99,1w999"));
        due.is(most, "panel(5, 4)", 593436);
    }

    private void lengths() {
        due.says("Terms", "LENGTH: the greatest whole number whose square is no more than OUT OUT and DOWN DOWN.");
        String[] texts = {"r3,4", "r4,3", "r0,1", "r1,1", "r2,2", "r99,99", "r98,99", "r0,99", "r7,24", "r6,24"};
        int[] want = {5, 5, 1, 1, 2, 140, 139, 99, 25, 24};
        for (int k = 0; k < texts.length; k++) {
            isOne(texts[k], 5, want[k]);
        }
    }

    private void strengths() {
        due.says("Terms", "THICK by a strength (1 .. 9999):");
        SkinLoads x = domeOf("r0,1w1");
        due.is(x, "thick(0, 0)", Edges.OUTSIDE);
        due.is(x, "thick(1, 0)", 1);
        due.is(x, "thick(9999, 0)", 1);
        due.is(x, "thick(10000, 0)", Edges.OUTSIDE);
        due.is(x, "thick(-1, 0)", Edges.OUTSIDE);
    }

    private void rowOfThickness() {
        due.says("Terms", "a row of 1 .. 5 by PANELS,");
        due.is(domeOf("r0,1"), "thick(9999, 0)", 1);
        due.is(domeOf("r0,1"), "thick(1, -1)", 1);
        due.is(domeOf("r0,1w4"), "thick(1, 0)", 4);
        due.is(domeOf("r0,1w5"), "thick(1, 0)", 5);
        due.is(domeOf("r0,1w6"), "thick(1, 0)", Edges.NONE);
        due.is(domeOf("r0,1w6"), "thick(1, -1)", Edges.NONE);
    }

    private void isRow(SkinLoads x, int strength, int... want) {
        for (int p = -1; p < want.length - 1; p++) {
            due.is(x, "thick(" + strength + ", " + p + ")", want[p + 1]);
        }
    }

    private void neighbours() {
        due.says("Terms", "neighbours' by 1 apart at most,");
        isRow(domeOf("r0,1;r0,1;r0,1;r0,1w5"), 1, 14, 2, 3, 4, 5);
        isRow(domeOf("r0,1;r0,1;r0,1;r0,1;r0,1;r0,1w5"), 1, 16, 1, 1, 2, 3, 4, 5);
        isRow(domeOf("r9,1w1;r0,9;r0,9;r0,9"), 2, 126, 5, 4, 3, 2);
        isRow(domeOf("r9,1w1;r0,1;r9,1"), 2, 94, 5, 4, 5);
        isRow(domeOf("r0,1;r9,1w1;r0,1;r0,1;r0,1;r0,1"), 2, 59, 4, 5, 4, 3, 2, 1);
    }

    private void noLess() {
        due.says("Terms", "thickness times strength no less than PUSH;");
        SkinLoads x = domeOf("r0,1w60");
        int[] strengths = {60, 59, 30, 29, 20, 19, 15, 14, 12, 11};
        int[] want = {1, 2, 2, 3, 3, 4, 4, 5, 5, Edges.NONE};
        for (int k = 0; k < strengths.length; k++) {
            due.is(x, "thick(" + strengths[k] + ", 0)", want[k]);
        }
    }

    /** Two rows' thinner ones make a row again, so the least sum has one row alone. */
    private void leastSum() {
        due.says("Terms", "of the least sum of thickness times LENGTH; of several the first as a row.");
        isRow(domeOf("r3,4w10;r5,2;r9,9w999"), 300, 95, 3, 4, 5);
        isRow(domeOf("r0,99;r0,1w2;r0,99;r0,1"), 1, 301, 1, 2, 2, 2);
        isRow(domeOf("r0,9;r0,9"), 1, 18, 1, 1);
        isRow(domeOf(Made.EIGHT_PANELS), 1000, 111, 1, 1, 1, 1, 1, 2, 3, 4);
        SkinLoads greatest = new SkinLoads();
        due.isText(greatest, times(7, "r99,99") + ";r99,99w5", 8);
        isRow(greatest, 1, Edges.NONE);
        due.is(greatest, "thick(2, -1)", 1960);
    }

    // ---- promise 2

    private void textBecomesDome() {
        due.says(2, "THE DOME becomes a TEXT of n cells of a SHEET from i on, taken as a row of a LANE: how many PANELS;");
        for (int lane = 0; lane < 3; lane++) {
            SkinLoads x = domeOf("r9,9w9;r9,9w9");
            Due.write(x, 3, lane, "zr1,2;r3,4z");
            due.is(x, "text(3, " + lane + ", 1, 9)", 2);
            due.is(x, "panel(0, 2)", 0);
            due.is(x, "panel(1, 1)", 4);
            due.is(x, "text(3, " + lane + ", 6, 4)", 1);
            due.is(x, "panel(0, 0)", 3);
            due.is(x, "panel(1, 0)", Edges.UNKNOWN);
            due.is(x, "many(0)", 1);
        }
        SkinLoads y = new SkinLoads();
        String sixty = times(6, "r99,1w999") + ";";
        Due.write(y, 0, 0, sixty);
        due.holds("the row is full", sixty.length() == 60);
        due.is(y, "text(0, 0, 0, 60)", -160);
        due.is(y, "text(0, 0, 0, 59)", 6);
        due.is(y, "text(0, 0, 50, 9)", 1);
        due.is(y, "text(0, 0, 58, 1)", -100);
        Due.write(y, 0, 0, "z".repeat(56) + "r1,5");
        due.is(y, "text(0, 0, 56, 4)", 1);
        due.is(y, "panel(0, 1)", 5);
    }

    private void textIsWrong() {
        due.says(2, "-100 less the FIRST WRONG.");
        for (int place = 0; place < 4; place++) {
            String text = "r1,1".substring(0, place) + "x" + "r1,1".substring(place + 1);
            Edges.Making making = () -> {
                SkinLoads x = domeOf("r7,8w9");
                Due.write(x, 0, 0, text);
                x.text(0, 1, 0, 0);
                return x;
            };
            due.changesNothingBut(making, "text(0, 0, 0, 4)", -100 - place, 0);
        }
    }

    private void textUnknown() {
        due.says(2, "UNKNOWN;");
        due.changesNothingBut(Made::full, "text(-1, 3, -1, -1)", Edges.UNKNOWN, 0);
        due.changesNothingBut(Made::full, "text(4, 3, -1, -1)", Edges.UNKNOWN, 0);
        due.changesNothingBut(Made::full, "text(4, 0, 0, 52)", Edges.UNKNOWN, 0);
        due.is(Made.full(), "text(0, 0, 0, 52)", 8);
        SkinLoads x = new SkinLoads();
        Due.write(x, 3, 0, "r1,1");
        due.is(x, "text(3, 0, 0, 4)", 1);
    }

    private void textOutside() {
        due.says(2, "OUTSIDE: lane;");
        due.changesNothingBut(Made::full, "text(0, -1, -1, -1)", Edges.OUTSIDE, 0);
        due.changesNothingBut(Made::full, "text(0, 3, -1, -1)", Edges.OUTSIDE, 0);
        due.changesNothingBut(Made::full, "text(3, 3, 0, 0)", Edges.OUTSIDE, 0);
        due.changesNothingBut(Made::full, "text(0, 3, 0, 52)", Edges.OUTSIDE, 0);
    }

    private void textFaults() {
        due.says(2, "FAULTS CAST (nothing is no CAST), NULL, SIZE: n is below 0, INDEX: not all cells are there;"
            + " -100 less it.");
        due.changesNothingBut(Made::full, "text(0, 1, -1, -1)", Edges.CAST, 2);
        due.changesNothingBut(Made::full, "text(0, 2, 0, 52)", Edges.CAST, 2);
        due.changesNothingBut(Made::full, "text(2, 0, 9, 9)", Edges.CAST, 2);
        for (int lane = 0; lane < 3; lane++) {
            due.changesNothingBut(Made::full, "text(3, " + lane + ", -1, -1)", Edges.NULL, 1);
            due.changesNothingBut(Made::full, "text(3, " + lane + ", 0, 0)", Edges.NULL, 1);
        }
        due.changesNothingBut(Made::full, "text(0, 0, -1, -1)", Edges.SIZE, 4);
        due.changesNothingBut(Made::full, "text(0, 0, 61, -1)", Edges.SIZE, 4);
        due.changesNothingBut(Made::full, "text(0, 0, 0, -2147483648)", Edges.SIZE, 4);
        String[] beyond = {"0, 61", "1, 60", "60, 1", "-1, 0", "-1, 53", "61, 0", "8, 2147483647",
            "2147483647, 2147483647", "2147483647, 1", "-2147483648, 2147483647", "-2147483648, 0"};
        for (String cells : beyond) {
            due.changesNothingBut(Made::full, "text(0, 0, " + cells + ")", Edges.INDEX, 3);
        }
        due.changesNothingBut(Made::full, "text(0, 0, 60, 0)", -100, 0);
        due.changesNothingBut(Made::full, "text(0, 0, 0, 0)", -100, 0);
        due.changesNothingBut(Made::full, "text(0, 0, 1, 59)", -100, 0);
        due.changesNothingBut(Made::full, "text(0, 0, 0, 60)", -152, 0);
    }

    // ---- promises 3 to 6

    private void panelAnswers() {
        due.says(3, "Of a PANEL: 0 OUT, 1 DOWN, 2 WEIGHT, 3 V, 4 PUSH, 5 LENGTH.");
        int[][] want = {{0, 9, 9, 9, 9, 9}, {1, 9, 0, 9, 9, 9}, {9, 3, 999, 1066, 3370, 9}};
        for (int what = 0; what < 6; what++) {
            due.is(Made.full(), "panel(0, " + what + ")", want[0][what]);
            due.is(Made.full(), "panel(1, " + what + ")", want[1][what]);
            due.is(Made.full(), "panel(7, " + what + ")", want[2][what]);
        }
    }

    private void panelRefused() {
        due.says(3, "UNKNOWN; OUTSIDE.");
        due.changesNothing(Made::full, "panel(-1, 6)", Edges.UNKNOWN);
        due.changesNothing(Made::full, "panel(8, -1)", Edges.UNKNOWN);
        due.changesNothing(Made::full, "panel(8, 0)", Edges.UNKNOWN);
        due.changesNothing(Made::fresh, "panel(0, 0)", Edges.UNKNOWN);
        due.changesNothing(Made::full, "panel(0, -1)", Edges.OUTSIDE);
        due.changesNothing(Made::full, "panel(7, 6)", Edges.OUTSIDE);
        SkinLoads x = domeOf("r1,1;r1,1");
        due.is(x, "panel(1, 0)", 1);
        due.is(x, "panel(2, 0)", Edges.UNKNOWN);
    }

    private void thrustAnswers() {
        due.says(4, "THRUST of a PANEL.");
        due.isShare(Made.full(), "thrust(0)", 0, 1);
        due.isShare(Made.full(), "thrust(1)", 1, 1);
        due.isShare(Made.full(), "thrust(2)", 59, 4);
        due.isShare(Made.full(), "thrust(7)", 3198, 1);
    }

    private void isLost(String call) {
        due.changesNothing(Made::full, call, Edges.LOST);
    }

    private void thrustRefused() {
        due.says(4, "LOST: UNKNOWN; OUTSIDE: which is not 0 (upper), 1 (lower).");
        isLost("thrust(-1, 0)");
        isLost("thrust(8, 0)");
        isLost("thrust(0, -1)");
        isLost("thrust(0, 2)");
        isLost("thrust(7, 2)");
        due.changesNothing(Made::fresh, "thrust(0, 0)", Edges.LOST);
    }

    private void pullAnswers() {
        due.says(5, "PULL beneath a PANEL.");
        due.isShare(Made.full(), "pull(0)", -1, 1);
        due.isShare(Made.full(), "pull(1)", -55, 4);
        due.isShare(Made.full(), "pull(7)", 3198, 1);
    }

    private void pullRefused() {
        due.says(5, "LOST: as thrust().");
        isLost("pull(-1, 0)");
        isLost("pull(8, 0)");
        isLost("pull(2147483647, 0)");
        isLost("pull(0, -1)");
        isLost("pull(0, 2)");
        isLost("pull(7, 2)");
        due.changesNothing(Made::fresh, "pull(0, 0)", Edges.LOST);
    }

    private void thickAnswers() {
        due.says(6, "THICK by a strength: the least sum (p -1), the thickness of a PANEL;");
        due.changesNothing(Made::full, "thick(9999, -1)", 63);
        due.changesNothing(Made::full, "thick(9999, 0)", 1);
        due.changesNothing(Made::full, "thick(1000, 7)", 4);
        due.changesNothing(Made::full, "thick(1000, 6)", 3);
    }

    private void thickNone() {
        due.says(6, "NONE: there is no such row.");
        due.changesNothing(Made::full, "thick(674, -1)", 141);
        due.changesNothing(Made::full, "thick(673, -1)", Edges.NONE);
        due.changesNothing(Made::full, "thick(673, 0)", Edges.NONE);
        due.changesNothing(Made::full, "thick(673, 7)", Edges.NONE);
        due.changesNothing(Made::full, "thick(1, 7)", Edges.NONE);
    }

    private void thickRefused() {
        due.says(6, "OUTSIDE; UNKNOWN: p (there are no PANELS, too).");
        due.changesNothing(Made::full, "thick(0, -2)", Edges.OUTSIDE);
        due.changesNothing(Made::full, "thick(10000, 8)", Edges.OUTSIDE);
        due.changesNothing(Made::fresh, "thick(0, -1)", Edges.OUTSIDE);
        due.changesNothing(Made::full, "thick(1, -2)", Edges.UNKNOWN);
        due.changesNothing(Made::full, "thick(9999, 8)", Edges.UNKNOWN);
        due.changesNothing(Made::fresh, "thick(1, -1)", Edges.UNKNOWN);
        due.changesNothing(Made::fresh, "thick(9999, 0)", Edges.UNKNOWN);
    }
}

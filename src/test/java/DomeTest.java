/** Promises 2 to 6: the text of the dome, its panels, thrusts, pulls and thickness. */
public final class DomeTest {
    private static final Due due = new Due("DomeTest");
    private static final long LOST = Due.LOST;

    public static void main(String[] args) {
        wrongTexts();
        rightTexts();
        cellsOfSheets();
        faultsOfText();
        panels();
        thrustsAndPulls();
        greatestNumbers();
        thickness();
        due.end();
    }

    private static void wrongTexts() {
        String[] texts = {"", "x", "r", "r1", "r1,", "r1,1;", "r1,1w", "r1,1w1;", "r,1", "r1,,", "rr",
            "r100,1", "r1,0", "r1,100", "r1,000", "r1,1w1000", "r1000,1", "r0999,1", "r1,0999", "r1,1x",
            "r1,1w1w1", "r1,1;;", "r1,1;r1,0", "R1,1", " r1,1", "r1,1 ", "r-1,1", "r1,-1", "r1;1",
            "r1,1wr", "r1,1;w1", "r:,1", "r/,1", "r1:,1", "r1,1w:", "r1,1;r1,1;r1,1;r1,1;r1,1;r1,1;r1,1;r1,1;",
            "r1,1;r1,1;r1,1;r1,1;r1,1;r1,1;r1,1;r1,1x"};
        int[] places = {0, 0, 1, 2, 3, 5, 5, 7, 1, 3, 1,
            1, 3, 3, 3, 8, 1, 4, 6, 4,
            6, 5, 8, 0, 0, 4, 1, 3, 2,
            5, 5, 1, 1, 2, 5, 39,
            39};
        for (int k = 0; k < texts.length; k++) {
            SkinLoads x = new SkinLoads();
            Due.readDome(x, "r7,8w9;r1,2");
            due.is("text " + texts[k], Due.readDome(x, texts[k]), -100 - places[k]);
            due.is("fault() after " + texts[k], x.fault(), 0);
            due.is("many(0) after " + texts[k], x.many(0), 2);
            due.is("panel(0, 2) after " + texts[k], x.panel(0, 2), 9);
        }
    }

    private static void rightTexts() {
        String[] texts = {"r0,1", "r99,99w999", "r000,001w000", "r099,099w999", "r1,1;r2,2w2",
            "r1,1;r1,1;r1,1;r1,1;r1,1;r1,1;r1,1;r1,1w5"};
        int[] counts = {1, 1, 1, 1, 2, 8};
        for (int k = 0; k < texts.length; k++) {
            SkinLoads x = new SkinLoads();
            due.is("text " + texts[k], Due.readDome(x, texts[k]), counts[k]);
            due.is("many(0)", x.many(0), counts[k]);
            due.is("panel(n - 1, 0)", x.panel(counts[k] - 1, 0) >= 0 ? 1 : 0, 1);
            due.is("panel(n, 0)", x.panel(counts[k], 0), SkinLoads.UNKNOWN);
        }
        SkinLoads x = new SkinLoads();
        Due.readDome(x, "r99,98w997");
        due.is("OUT", x.panel(0, 0), 99);
        due.is("DOWN", x.panel(0, 1), 98);
        due.is("WEIGHT", x.panel(0, 2), 997);
        Due.readDome(x, "r5,6");
        due.is("WEIGHT left out", x.panel(0, 2), 0);
    }

    private static void cellsOfSheets() {
        SkinLoads x = new SkinLoads();
        Due.write(x, 3, 2, "xxr1,2w3;r4,5zz");
        due.is("text from within", x.text(3, 2, 2, 11), 2);
        due.is("place from the text's own start", x.text(3, 2, 2, 12), -111);
        due.is("no cells at the end", x.text(3, 2, 15, 0), -100);
        due.is("shorter", x.text(3, 2, 2, 4), 1);
        due.is("many(0)", x.many(0), 1);
        x.sheet(0, 0, 4);
        x.put(0, 0, 114 + 256);
        x.put(0, 1, 49 - 256);
        x.put(0, 2, 44);
        x.put(0, 3, 49);
        due.is("codes cut to bytes", x.text(0, 0, 0, 4), 1);
        x.sheet(0, 1, 4);
        x.put(0, 0, 114 + 256);
        due.is("codes of shorts", x.text(0, 1, 0, 4), -100);
    }

    private static void faultsOfText() {
        SkinLoads x = new SkinLoads();
        due.is("text(-1, ..)", x.text(-1, 9, 0, 0), SkinLoads.UNKNOWN);
        due.is("text(4, ..)", x.text(4, 0, 0, 0), SkinLoads.UNKNOWN);
        due.is("text(0, 3, ..)", x.text(0, 3, 0, -1), SkinLoads.OUTSIDE);
        due.is("text(0, -1, ..)", x.text(0, -1, 0, -1), SkinLoads.OUTSIDE);
        due.is("text of nothing", x.text(0, 1, 0, -1), -11);
        due.is("fault()", x.fault(), 1);
        Due.write(x, 0, 0, "r1,1");
        due.is("another lane", x.text(0, 1, 0, -1), -12);
        due.is("fault()", x.fault(), 2);
        due.is("length below 0", x.text(0, 0, -1, -1), -14);
        due.is("fault()", x.fault(), 4);
        due.is("i below 0", x.text(0, 0, -1, 0), -13);
        due.is("fault()", x.fault(), 3);
        due.is("i beyond", x.text(0, 0, 5, 0), -13);
        due.is("not all there", x.text(0, 0, 1, 4), -13);
        due.is("sum beyond int", x.text(0, 0, 1, Integer.MAX_VALUE), -13);
        due.is("sum beyond int", x.text(0, 0, Integer.MAX_VALUE, Integer.MAX_VALUE), -13);
        due.is("many(0)", x.many(0), 0);
        due.is("refused", x.text(9, 0, 0, 0), SkinLoads.UNKNOWN);
        due.is("fault() of a refused one", x.fault(), 0);
        due.is("i at the end", x.text(0, 0, 4, 0), -100);
        due.is("fault()", x.fault(), 0);
        due.is("text", x.text(0, 0, 0, 4), 1);
        due.is("fault()", x.fault(), 0);
    }

    private static void panels() {
        SkinLoads x = new SkinLoads();
        Due.readDome(x, "r3,4w10;r5,2;r9,9w999");
        int[][] want = {{3, 4, 10, 10, 12, 5}, {5, 2, 0, 10, 26, 5}, {9, 9, 999, 1009, 1426, 12}};
        for (int p = 0; p < 3; p++) {
            for (int what = 0; what < 6; what++) {
                due.is("panel(" + p + ", " + what + ")", x.panel(p, what), want[p][what]);
            }
            due.is("panel(p, -1)", x.panel(p, -1), SkinLoads.OUTSIDE);
            due.is("panel(p, 6)", x.panel(p, 6), SkinLoads.OUTSIDE);
        }
        due.is("panel(-1, 9)", x.panel(-1, 9), SkinLoads.UNKNOWN);
        due.is("panel(3, 9)", x.panel(3, 9), SkinLoads.UNKNOWN);
    }

    private static void thrustsAndPulls() {
        SkinLoads x = new SkinLoads();
        Due.readDome(x, "r3,4w10;r5,2;r9,9w999");
        long[] want = {15, 2, 25, 1, 1009, 1};
        long[] pulls = {-35, 2, -984, 1, 1009, 1};
        for (int k = 0; k < 6; k++) {
            due.is("thrust(" + k / 2 + ", " + k % 2 + ")", x.thrust(k / 2, k % 2), want[k]);
            due.is("pull(" + k / 2 + ", " + k % 2 + ")", x.pull(k / 2, k % 2), pulls[k]);
        }
        for (int which : new int[] {-1, 2}) {
            due.is("thrust(0, " + which + ")", x.thrust(0, which), LOST);
            due.is("pull(0, " + which + ")", x.pull(0, which), LOST);
        }
        for (int p : new int[] {-1, 3, Integer.MAX_VALUE, Integer.MIN_VALUE}) {
            due.is("thrust(" + p + ", 0)", x.thrust(p, 0), LOST);
            due.is("pull(" + p + ", 0)", x.pull(p, 0), LOST);
        }
        Due.readDome(x, "r7,3;r7,3");
        due.is("thrust of no weight", x.thrust(1, 0), 0);
        due.is("thrust of no weight", x.thrust(1, 1), 1);
        due.is("pull of no weight", x.pull(0, 0), 0);
        due.is("pull of no weight", x.pull(0, 1), 1);
    }

    private static void greatestNumbers() {
        SkinLoads x = new SkinLoads();
        Due.readDome(x, "r1,1w999;r1,1w999;r1,1w999;r1,1w999;r1,1w999;r9,1w999");
        due.is("V", x.panel(5, 3), 5994);
        due.is("PUSH", x.panel(5, 4), 54277);
        due.is("thrust", x.thrust(5, 0), 53946);
        Due.readDome(x, "r99,1w999;r0,1w999;r0,99w999");
        due.is("PUSH", x.panel(0, 4), 98906);
        due.is("PUSH of one straight down", x.panel(1, 4), 1998);
        due.is("PUSH of one straight down", x.panel(2, 4), 2997);
        due.is("LENGTH", x.panel(0, 5), 99);
        due.is("LENGTH", x.panel(2, 5), 99);
    }

    private static void thickness() {
        SkinLoads x = new SkinLoads();
        due.is("no PANELS", x.thick(1, -1), SkinLoads.UNKNOWN);
        due.is("no PANELS", x.thick(1, 0), SkinLoads.UNKNOWN);
        due.is("OUTSIDE ahead of UNKNOWN", x.thick(0, 0), SkinLoads.OUTSIDE);
        Due.readDome(x, "r3,4w10;r5,2;r9,9w999");
        due.is("thick(10000, -1)", x.thick(10000, -1), SkinLoads.OUTSIDE);
        due.is("thick(0, 7)", x.thick(0, 7), SkinLoads.OUTSIDE);
        due.is("thick(9, -2)", x.thick(9, -2), SkinLoads.UNKNOWN);
        due.is("thick(9, 3)", x.thick(9, 3), SkinLoads.UNKNOWN);
        long[] by300 = {95, 3, 4, 5};
        long[] by1426 = {22, 1, 1, 1};
        long[] by713 = {34, 1, 1, 2};
        for (int p = -1; p < 3; p++) {
            due.is("thick(300, " + p + ")", x.thick(300, p), by300[p + 1]);
            due.is("thick(286, " + p + ")", x.thick(286, p), by300[p + 1]);
            due.is("thick(285, " + p + ")", x.thick(285, p), SkinLoads.NONE);
            due.is("thick(1426, " + p + ")", x.thick(1426, p), by1426[p + 1]);
            due.is("thick(1425, " + p + ")", x.thick(1425, p), by713[p + 1]);
            due.is("thick(9999, " + p + ")", x.thick(9999, p), by1426[p + 1]);
        }
        due.is("thick(1, -1)", x.thick(1, -1), SkinLoads.NONE);
        due.is("thick(285, 3)", x.thick(285, 3), SkinLoads.UNKNOWN);
    }
}

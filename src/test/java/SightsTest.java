/** Promises 27 to 30: sights, quarrels, the most that agree, spans. */
public final class SightsTest {
    private static final Due due = new Due("SightsTest");
    private static final long LOST = Due.LOST;

    public static void main(String[] args) {
        refusals();
        touching();
        mostOfSeveral();
        spans();
        full();
        due.end();
    }

    private static void refusals() {
        SkinLoads x = new SkinLoads();
        int[][] rows = {{0, 0, 0}, {100, 0, 0}, {-1, 0, 0}, {1, -1, 0}, {1, 0, -1}, {1, 5, 4}, {1, 100000, 100000},
            {1, 0, 100000}, {Integer.MAX_VALUE, 0, 0}, {1, Integer.MIN_VALUE, Integer.MAX_VALUE}};
        for (int[] row : rows) {
            due.is("sight(" + row[0] + ", " + row[1] + ", " + row[2] + ")", x.sight(row[0], row[1], row[2]),
                SkinLoads.OUTSIDE);
        }
        due.is("many(6)", x.many(6), 0);
        due.is("most() of none", x.most(), 0);
        due.is("quarrel(0, 0) of none", x.quarrel(0, 0), SkinLoads.UNKNOWN);
        due.is("span(0, 0, 0) of none", x.span(0, 0, 0), LOST);
        due.is("span(1, 0, 0) of none", x.span(1, 0, 0), LOST);
        SkinLoads y = new SkinLoads();
        due.is("sight(1, 99999, 99999)", y.sight(1, 99999, 99999), 0);
        due.is("sight(1, 0, 0)", y.sight(1, 0, 0), 1);
        due.is("quarrel(0, 1)", y.quarrel(0, 1), 1);
        due.is("sight(99, 0, 99999)", x.sight(99, 0, 99999), 0);
        due.is("quarrel(0, 1)", x.quarrel(0, 1), SkinLoads.UNKNOWN);
        due.is("quarrel(-1, 0)", x.quarrel(-1, 0), SkinLoads.UNKNOWN);
        due.is("quarrel(0, 0)", x.quarrel(0, 0), 0);
        due.is("span(2, 0, 0)", x.span(2, 0, 0), LOST);
        due.is("span(-1, 0, 0)", x.span(-1, 0, 0), LOST);
        due.is("span(1, -1, 0)", x.span(1, -1, 0), LOST);
        due.is("span(1, 2, 0)", x.span(1, 2, 0), LOST);
        due.is("span(1, 0, 2)", x.span(1, 0, 2), LOST);
        due.is("span(1, 0, -1)", x.span(1, 0, -1), LOST);
        due.is("span(1, 0, 0)", x.span(1, 0, 0), 0);
        due.is("span(1, 0, 1)", x.span(1, 0, 1), 1);
        due.is("span(1, 1, 0)", x.span(1, 1, 0), 11111);
        due.is("span(1, 1, 1)", x.span(1, 1, 1), 11);
    }

    private static void touching() {
        SkinLoads x = new SkinLoads();
        x.sight(3, 1, 2);
        x.sight(6, 4, 9);
        x.sight(97, 65, 99999);
        due.is("2 by 3 and 4 by 6 touch", x.quarrel(0, 1), 0);
        due.is("65 by 97 is above 2 by 3", x.quarrel(0, 2), 1);
        due.is("65 by 97 is above 2 by 3", x.quarrel(2, 0), 1);
        due.is("span(3, 0, 0)", x.span(3, 0, 0), 2);
        due.is("span(3, 0, 1)", x.span(3, 0, 1), 3);
        due.is("span(3, 1, 0)", x.span(3, 1, 0), 2);
        due.is("span(3, 1, 1)", x.span(3, 1, 1), 3);
        due.is("span(5, 0, 0)", x.span(5, 0, 0), LOST);
        due.is("most()", x.most(), 3);
    }

    private static void mostOfSeveral() {
        SkinLoads x = new SkinLoads();
        x.sight(1, 50, 60);
        due.is("most()", x.most(), 1);
        x.sight(1, 10, 20);
        due.is("most() of two that quarrel", x.most(), 1);
        x.sight(1, 15, 55);
        due.is("most() of several", x.most(), 5);
        x.sight(1, 16, 17);
        due.is("most() of three", x.most(), 14);
        x.sight(1, 52, 53);
        due.is("most() of several of three", x.most(), 14);
        x.sight(2, 100, 110);
        due.is("most() of four", x.most(), 53);
    }

    private static void spans() {
        SkinLoads x = new SkinLoads();
        x.sight(4, 10, 30);
        x.sight(6, 14, 50);
        x.sight(10, 5, 72);
        long[] want = {5, 2, 36, 5};
        for (int k = 0; k < 4; k++) {
            due.is("span(7, " + k / 2 + ", " + k % 2 + ")", x.span(7, k / 2, k % 2), want[k]);
        }
        due.is("span(2, 0, 0)", x.span(2, 0, 0), 7);
        due.is("span(2, 0, 1)", x.span(2, 0, 1), 3);
        due.is("span(8, 0, 0)", x.span(8, 0, 0), LOST);
    }

    private static void full() {
        SkinLoads x = new SkinLoads();
        for (int k = 0; k < 12; k++) {
            due.is("sight", x.sight(1, k, 99999), k);
        }
        due.is("a thirteenth", x.sight(1, 0, 1), SkinLoads.FULL);
        due.is("OUTSIDE ahead of FULL", x.sight(0, 0, 1), SkinLoads.OUTSIDE);
        due.is("many(6)", x.many(6), 12);
        due.is("most()", x.most(), 4095);
        due.is("span(4095, 0, 0)", x.span(4095, 0, 0), 11);
        due.is("span(4096, 0, 0)", x.span(4096, 0, 0), LOST);
    }
}

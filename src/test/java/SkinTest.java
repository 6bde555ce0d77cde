/** Promises 25 and 26: pieces taken out and put in, and what comes of it. */
public final class SkinTest {
    private static final Due due = new Due("SkinTest");

    public static void main(String[] args) {
        refusals();
        lakesAndCorners();
        tornBySides();
        cuts();
        allWays();
        due.end();
    }

    private static void are(SkinLoads x, String when, int... want) {
        for (int what = 0; what < 5; what++) {
            due.is(when + ": skin(" + what + ")", x.skin(what), want[what]);
        }
    }

    private static void refusals() {
        SkinLoads x = new SkinLoads();
        int[][] places = {{-1, 0}, {0, -1}, {10, 0}, {0, 10}, {Integer.MAX_VALUE, 5}, {5, Integer.MIN_VALUE}};
        for (int[] place : places) {
            due.is("hole", x.hole(place[0], place[1], true), SkinLoads.UNKNOWN);
        }
        due.is("skin(-1)", x.skin(-1), SkinLoads.OUTSIDE);
        due.is("skin(5)", x.skin(5), SkinLoads.OUTSIDE);
        due.is("put in, was so", x.hole(3, 3, false), 0);
        due.is("taken out", x.hole(3, 3, true), 1);
        due.is("taken out, was so", x.hole(3, 3, true), 0);
        due.is("put in", x.hole(3, 3, false), 1);
        are(x, "whole", 100, 0, 0, 0, 10);
    }

    private static void lakesAndCorners() {
        SkinLoads x = new SkinLoads();
        x.hole(1, 1, true);
        are(x, "one gap within", 99, 0, 1, 0, 9);
        x.hole(2, 2, true);
        are(x, "two gaps by a corner", 98, 0, 1, 0, 8);
        x.hole(4, 4, true);
        are(x, "a third apart", 97, 0, 2, 0, 7);
        x.hole(0, 0, true);
        are(x, "the first comes to the rim by a corner", 96, 0, 1, 0, 6);
        x.hole(8, 9, true);
        are(x, "a gap in the last column", 95, 0, 1, 0, 5);
    }

    private static void tornBySides() {
        SkinLoads x = new SkinLoads();
        x.hole(0, 1, true);
        x.hole(1, 0, true);
        are(x, "a corner hangs by a corner alone", 98, 1, 0, 0, 8);
        x.hole(0, 0, true);
        are(x, "the torn one gone", 97, 0, 0, 0, 8);
        SkinLoads y = new SkinLoads();
        y.hole(8, 0, true);
        y.hole(9, 1, true);
        are(y, "a corner of the last row is not torn", 98, 0, 0, 0, 8);
        SkinLoads z = new SkinLoads();
        for (int column = 0; column < 10; column++) {
            z.hole(9, column, true);
        }
        are(z, "no last row", 90, 1, 0, 1, 0);
        for (int row = 0; row < 9; row++) {
            for (int column = 0; column < 10; column++) {
                z.hole(row, column, true);
            }
        }
        are(z, "nothing there", 0, 0, 0, 1, 0);
    }

    private static SkinLoads without(int... places) {
        SkinLoads x = new SkinLoads();
        for (int place : places) {
            x.hole(place / 10, place % 10, true);
        }
        return x;
    }

    /** Lots that hang together only over one of the eight ways, as they are gone through. */
    private static void allWays() {
        are(without(18, 28, 37, 26), "up over a corner to the left", 96, 0, 1, 0, 7);
        are(without(11, 21, 32, 23), "up over a corner to the right", 96, 0, 1, 0, 7);
        are(without(11, 21, 31, 32, 33, 23, 13), "up over a side", 93, 0, 1, 0, 7);
        are(without(45, 54, 56, 65), "one piece by corners alone", 96, 1, 1, 0, 7);
        are(without(50, 1, 2, 3, 4, 5, 6, 7, 8, 9), "nothing hangs together beyond the rim", 90, 0, 0, 0, 1);
        are(without(90, 81, 71, 61, 51, 42, 43, 44, 45, 46, 47, 48, 49), "up a narrow way", 87, 1, 0, 1, 0);
        are(without(0, 11, 21, 31, 41, 52, 53, 54, 55, 56, 57, 58, 59), "down a narrow way", 87, 1, 0, 1, 0);
        are(without(0, 1, 2, 3, 4, 5, 6, 17, 26, 25, 24, 33, 44, 45, 46, 47, 48, 49), "back and on", 82, 1, 0, 1, 0);
    }

    private static void cuts() {
        SkinLoads x = new SkinLoads();
        for (int row = 0; row < 10; row++) {
            x.hole(row, 4, true);
        }
        are(x, "a column out", 90, 0, 0, 0, 9);
        x.hole(0, 3, true);
        x.hole(1, 2, true);
        x.hole(0, 1, true);
        x.hole(1, 0, true);
        are(x, "from column 0 to the middle", 86, 2, 0, 0, 5);
        for (int column = 5; column < 9; column++) {
            x.hole(9, column, true);
        }
        are(x, "all but one", 82, 2, 0, 0, 1);
        x.hole(8, 9, true);
        are(x, "it leaks", 81, 3, 0, 1, 0);
        x.hole(9, 6, false);
        are(x, "shut again", 82, 2, 0, 0, 1);
    }
}

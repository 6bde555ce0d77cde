/** Objects that the tests of the edges begin with. */
final class Made {
    static final String EIGHT_PANELS = "r0,9w9;r1,9;r2,8w50;r3,7;r4,6w7;r5,5;r6,4w1;r9,3w999";

    private Made() {
    }

    static SkinLoads fresh() {
        return new SkinLoads();
    }

    /**
     * All places taken: PANELS, links, JOINTS, FREE ones, BARS, SIGHTS. SHEET 0 has 60 bytes, 1 three
     * shorts, 2 two ints, 3 nothing. LOOSE and MOVES are 0. fault() is 3, and trace() is not 0.
     */
    static SkinLoads full() {
        SkinLoads x = new SkinLoads();
        dome(x);
        rib(x);
        net(x);
        loads(x);
        skin(x);
        for (int k = 0; k < 12; k++) {
            x.sight(1 + k, 100 * k, 90 * k + 300);
        }
        x.tell(2);
        sheets(x);
        x.put(1, 3, 0);
        return x;
    }

    private static void dome(SkinLoads x) {
        x.sheet(0, 0, 60);
        for (int i = 0; i < EIGHT_PANELS.length(); i++) {
            x.put(0, i, EIGHT_PANELS.charAt(i));
        }
        x.text(0, 0, 0, EIGHT_PANELS.length());
    }

    private static void rib(SkinLoads x) {
        int[] springs = {3, 20, 7, 5};
        x.rib(5);
        for (int j = 1; j <= 4; j++) {
            x.spring(j, springs[j - 1]);
        }
    }

    /** JOINTS 0 to 3 are HELD, 4 to 7 FREE; each of these hangs on two BARS, the other eight are CUT. */
    private static void net(SkinLoads x) {
        int[][] places = {{0, 0}, {5, 0}, {0, 5}, {5, 5}, {2, 1}, {4, 2}, {1, 2}, {3, 4}};
        for (int k = 0; k < 8; k++) {
            x.joint(places[k][0], places[k][1], k < 4);
        }
        int[][] ends = {{0, 4}, {1, 4}, {0, 1}, {1, 5}, {3, 5}, {2, 3}, {2, 6}, {4, 6}, {0, 2}, {1, 3}, {3, 7},
            {0, 5}, {2, 7}, {4, 7}, {5, 6}, {6, 7}};
        for (int b = 0; b < 16; b++) {
            x.bar(b % 3, ends[b][0], ends[b][1], 20 + b);
        }
        for (int b : new int[] {2, 5, 8, 9, 11, 12, 13, 14}) {
            x.cut(b, true);
        }
    }

    private static void loads(SkinLoads x) {
        for (int c = 0; c < 6; c++) {
            for (int joint = 4; joint < 8; joint++) {
                x.load(c, joint, c + joint - 6, 2 * c - joint);
            }
        }
    }

    private static void skin(SkinLoads x) {
        int[] gaps = {1, 10, 12, 21, 45, 56, 99};
        for (int place : gaps) {
            x.hole(place / 10, place % 10, true);
        }
    }

    private static void sheets(SkinLoads x) {
        x.sheet(1, 1, 3);
        x.put(1, 0, 1000);
        x.put(1, 1, -5);
        x.sheet(2, 2, 2);
        x.put(2, 0, 70000);
        x.put(2, 1, -70000);
    }
}

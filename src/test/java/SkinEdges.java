/** The sentences about the skin, and promises 25 and 26. */
final class SkinEdges {
    private final Edges due;

    SkinEdges(Edges due) {
        this.due = due;
    }

    void all() {
        pieces();
        hangTogether();
        torn();
        lakes();
        leaks();
        shortestCut();
        holeAnswers();
        holeRefused();
        skinAnswers();
        skinRefused();
    }

    private static SkinLoads without(int... places) {
        SkinLoads x = new SkinLoads();
        for (int place : places) {
            x.hole(place / 10, place % 10, true);
        }
        return x;
    }

    private static SkinLoads withoutAll(int low, int high) {
        SkinLoads x = new SkinLoads();
        for (int place = low; place <= high; place++) {
            x.hole(place / 10, place % 10, true);
        }
        return x;
    }

    /** What skin(0) to skin(4) answer. */
    private void isSkin(SkinLoads x, int... want) {
        for (int what = 0; what < 5; what++) {
            due.is(x, "skin(" + what + ")", want[what]);
        }
    }

    private void pieces() {
        due.says("Terms", "==== 4 THE SKIN: 10 by 10 pieces (row 0 at the top), all there at first; some taken out"
            + " (HOLES are gaps).");
        isSkin(new SkinLoads(), 100, 0, 0, 0, 10);
        SkinLoads x = new SkinLoads();
        for (int place = 0; place < 100; place++) {
            due.is(x, "hole(" + place / 10 + ", " + place % 10 + ", false)", 0);
            due.is(x, "hole(" + place / 10 + ", " + place % 10 + ", true)", 1);
            due.is(x, "skin(0)", 99 - place);
        }
        isSkin(x, 0, 0, 0, 1, 0);
        SkinLoads rows = withoutAll(0, 9);
        isSkin(rows, 90, 0, 0, 1, 0);
        isSkin(withoutAll(10, 19), 90, 1, 0, 1, 0);
    }

    private void hangTogether() {
        due.says("Terms", "Pieces HANG TOGETHER by sides, gaps by sides and corners.");
        isSkin(without(1, 10), 98, 1, 0, 0, 8);
        isSkin(without(1, 10, 11), 97, 1, 0, 0, 8);
        isSkin(without(33, 34), 98, 0, 1, 0, 8);
        isSkin(without(33, 43), 98, 0, 1, 0, 9);
        isSkin(without(33, 44), 98, 0, 1, 0, 8);
        isSkin(without(34, 43), 98, 0, 1, 0, 8);
        isSkin(without(33, 35), 98, 0, 2, 0, 8);
        isSkin(without(33, 53), 98, 0, 2, 0, 9);
        isSkin(without(45, 54, 56, 65), 96, 1, 1, 0, 7);
        isSkin(without(18, 28, 37, 26), 96, 0, 1, 0, 7);
        isSkin(without(11, 21, 32, 23), 96, 0, 1, 0, 7);
        isSkin(without(11, 21, 31, 32, 33, 23, 13), 93, 0, 1, 0, 7);
        isSkin(without(16, 26, 25, 24, 34), 95, 0, 1, 0, 7);
    }

    private void torn() {
        due.says("Terms", "TORN: lots of pieces that hang together none of which is in row 9.");
        isSkin(without(80, 91), 98, 0, 0, 0, 8);
        isSkin(without(70, 81, 90), 97, 1, 0, 0, 8);
        isSkin(withoutAll(90, 99), 90, 1, 0, 1, 0);
        isSkin(withoutAll(80, 89), 90, 1, 0, 1, 0);
        isSkin(withoutAll(0, 89), 10, 0, 0, 1, 0);
        SkinLoads board = new SkinLoads();
        for (int place = 0; place < 100; place++) {
            board.hole(place / 10, place % 10, (place / 10 + place % 10) % 2 == 1);
        }
        isSkin(board, 50, 45, 0, 1, 0);
    }

    private void lakes() {
        due.says("Terms", "LAKES: lots of gaps none of which is at the rim.");
        int[] rim = {5, 95, 50, 59, 0, 9, 90, 99};
        for (int place : rim) {
            due.is(without(place), "skin(2)", 0);
        }
        int[] within = {15, 85, 51, 58, 11, 18, 81, 88};
        for (int place : within) {
            due.is(without(place), "skin(2)", 1);
        }
        due.is(without(11, 0), "skin(2)", 0);
        due.is(without(55, 65, 75, 85), "skin(2)", 1);
        due.is(without(55, 65, 75, 85, 95), "skin(2)", 0);
        SkinLoads most = new SkinLoads();
        for (int k = 0; k < 16; k++) {
            most.hole(1 + k / 4 * 2, 1 + k % 4 * 2, true);
        }
        isSkin(most, 84, 0, 16, 0, 6);
    }

    private void leaks() {
        due.says("Terms", "LEAKS: a gap of column 0 hangs together with one of column 9.");
        due.is(withoutAll(40, 49), "skin(3)", 1);
        due.is(withoutAll(40, 48), "skin(3)", 0);
        due.is(withoutAll(41, 49), "skin(3)", 0);
        due.is(withoutAll(41, 50), "skin(3)", 1);
        due.is(without(0, 11, 22, 33, 44, 55, 66, 77, 88, 99), "skin(3)", 1);
        due.is(without(9, 18, 27, 36, 45, 54, 63, 72, 81, 90), "skin(3)", 1);
        due.is(without(0, 11, 22, 33, 44, 56, 67, 78, 89, 99), "skin(3)", 0);
        due.is(without(90, 81, 71, 61, 51, 42, 43, 44, 45, 46, 47, 48, 49), "skin(3)", 1);
        due.is(without(0, 11, 21, 31, 41, 52, 53, 54, 55, 56, 57, 58, 59), "skin(3)", 1);
        due.is(without(0, 1, 2, 3, 4, 5, 6, 17, 26, 25, 24, 33, 44, 45, 46, 47, 48, 49), "skin(3)", 1);
        due.is(without(9, 10), "skin(3)", 0);
        due.is(without(0, 10, 20, 30, 40, 50, 60, 70, 80, 90), "skin(3)", 0);
        due.is(withoutAll(0, 99), "skin(3)", 1);
    }

    private void shortestCut() {
        due.says("Terms", "SHORTEST CUT: the fewest pieces to be taken out so that it LEAKS.");
        due.is(new SkinLoads(), "skin(4)", 10);
        due.is(without(55), "skin(4)", 9);
        due.is(without(0), "skin(4)", 9);
        due.is(without(9), "skin(4)", 9);
        due.is(withoutAll(40, 48), "skin(4)", 1);
        due.is(withoutAll(41, 49), "skin(4)", 1);
        due.is(withoutAll(40, 49), "skin(4)", 0);
        due.is(without(0, 10, 20, 30, 40, 50, 60, 70, 80, 90), "skin(4)", 9);
        due.is(without(9, 19, 29, 39, 49, 59, 69, 79, 89, 99), "skin(4)", 9);
        due.is(without(9, 10), "skin(4)", 8);
        due.is(without(10, 30, 31, 32, 33, 34, 44, 54, 64, 74, 75, 76, 77, 78), "skin(4)", 1);
    }

    private void holeAnswers() {
        due.says(25, "A piece is taken out, or put in: 1; 0: it was so.");
        int[] corners = {0, 9, 90, 99};
        for (int place : corners) {
            SkinLoads x = new SkinLoads();
            String at = "hole(" + place / 10 + ", " + place % 10 + ", ";
            due.is(x, at + "false)", 0);
            due.is(x, "skin(0)", 100);
            due.is(x, at + "true)", 1);
            due.is(x, "skin(0)", 99);
            due.is(x, at + "true)", 0);
            due.is(x, "skin(0)", 99);
            due.is(x, at + "false)", 1);
            due.is(x, at + "false)", 0);
            due.is(x, "skin(0)", 100);
        }
        due.changesNothing(Made::full, "hole(0, 1, true)", 0);
        due.changesNothing(Made::full, "hole(0, 0, false)", 0);
    }

    private void holeRefused() {
        due.says(25, "UNKNOWN.");
        for (String place : new String[] {"-1, 0", "0, -1", "10, 9", "9, 10", "10, 0", "0, 10", "2147483647, 0"}) {
            due.changesNothing(Made::full, "hole(" + place + ", true)", Edges.UNKNOWN);
            due.changesNothing(Made::full, "hole(" + place + ", false)", Edges.UNKNOWN);
        }
    }

    private void skinAnswers() {
        due.says(26, "Of THE SKIN: 0 pieces there, 1 TORN, 2 LAKES, 3 whether it LEAKS (1, 0), 4 SHORTEST CUT.");
        int[] want = {93, 2, 1, 0, 5};
        for (int what = 0; what < 5; what++) {
            due.changesNothing(Made::full, "skin(" + what + ")", want[what]);
        }
        due.is(withoutAll(0, 9), "skin(3)", 1);
    }

    private void skinRefused() {
        due.says(26, "OUTSIDE.");
        due.changesNothing(Made::full, "skin(-1)", Edges.OUTSIDE);
        due.changesNothing(Made::full, "skin(5)", Edges.OUTSIDE);
    }
}

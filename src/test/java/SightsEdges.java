/** The sentences about sights, and promises 27 to 30. */
final class SightsEdges {
    private final Edges due;

    SightsEdges(Edges due) {
        this.due = due;
    }

    void all() {
        twelve();
        factor();
        lowAndHigh();
        agree();
        most();
        span();
        sightAnswers();
        sightOutside();
        sightFull();
        quarrelAnswers();
        quarrelRefused();
        mostAnswers();
        spanAnswers();
        spanRefused();
    }

    /** Sights by threes: m, lo, hi. */
    private static SkinLoads sightsOf(int... rows) {
        SkinLoads x = new SkinLoads();
        for (int k = 0; k + 2 < rows.length; k += 3) {
            x.sight(rows[k], rows[k + 1], rows[k + 2]);
        }
        return x;
    }

    private void twelve() {
        due.says("Terms", "==== 5 SIGHTS, 12 ever, numbered as they come: of a stiffness e:");
        SkinLoads x = new SkinLoads();
        due.is(x, "many(6)", 0);
        for (int k = 0; k < 12; k++) {
            due.is(x, "sight(1, 5, 6)", k);
            due.is(x, "many(6)", k + 1);
        }
        due.is(x, "sight(1, 5, 6)", Edges.FULL);
        due.is(x, "many(6)", 12);
    }

    private void factor() {
        due.says("Terms", "a factor m (1 .. 99),");
        SkinLoads x = new SkinLoads();
        due.is(x, "sight(0, 1, 1)", Edges.OUTSIDE);
        due.is(x, "sight(100, 1, 1)", Edges.OUTSIDE);
        due.is(x, "sight(1, 1, 1)", 0);
        due.is(x, "sight(99, 1, 1)", 1);
        due.isShare(x, "span(1, 0)", 1, 1);
        due.isShare(x, "span(2, 0)", 1, 99);
    }

    private void lowAndHigh() {
        due.says("Terms", "and m e was from lo to hi (0 .. 99999 each).");
        SkinLoads x = new SkinLoads();
        due.is(x, "sight(1, -1, 5)", Edges.OUTSIDE);
        due.is(x, "sight(1, -1, -1)", Edges.OUTSIDE);
        due.is(x, "sight(1, 0, 100000)", Edges.OUTSIDE);
        due.is(x, "sight(1, 100000, 100000)", Edges.OUTSIDE);
        due.is(x, "many(6)", 0);
        due.is(x, "sight(1, 0, 0)", 0);
        due.is(x, "sight(1, 99999, 99999)", 1);
        due.is(x, "sight(99, 0, 99999)", 2);
        due.isShare(x, "span(1, 1)", 0, 1);
        due.isShare(x, "span(2, 0)", 99999, 1);
        due.isShare(x, "span(4, 1)", 11111, 11);
    }

    private void agree() {
        due.says("Terms", "Some AGREE, if there is an e that is within all of them.");
        SkinLoads x = sightsOf(3, 1, 2, 6, 4, 9, 97, 65, 99);
        due.is(x, "quarrel(0, 1)", 0);
        due.is(x, "quarrel(1, 0)", 0);
        due.is(x, "quarrel(0, 2)", 1);
        due.is(x, "quarrel(2, 0)", 1);
        due.is(x, "quarrel(1, 2)", 0);
        SkinLoads whole = sightsOf(1, 0, 10, 1, 10, 20, 1, 11, 30, 1, 5, 5);
        due.is(whole, "quarrel(0, 1)", 0);
        due.is(whole, "quarrel(0, 2)", 1);
        due.is(whole, "quarrel(1, 2)", 0);
        due.is(whole, "quarrel(0, 3)", 0);
        due.is(whole, "quarrel(3, 3)", 0);
        SkinLoads firstAbove = sightsOf(1, 50, 60, 1, 10, 20, 1, 60, 99);
        due.is(firstAbove, "quarrel(0, 1)", 1);
        due.is(firstAbove, "quarrel(0, 2)", 0);
        SkinLoads far = sightsOf(99, 99998, 99998, 99, 99999, 99999, 98, 0, 98988, 98, 98989, 99999);
        due.is(far, "quarrel(0, 1)", 1);
        due.is(far, "quarrel(2, 1)", 1);
        due.is(far, "quarrel(3, 1)", 1);
        due.is(far, "quarrel(2, 3)", 1);
        due.is(sightsOf(99, 99, 99, 98, 98, 98), "quarrel(0, 1)", 0);
    }

    private void most() {
        due.says("Terms", "MOST: the greatest set that AGREES; of several the least as a number.");
        due.is(new SkinLoads(), "most()", 0);
        due.is(sightsOf(1, 7, 7), "most()", 1);
        due.is(sightsOf(1, 50, 60, 1, 10, 20), "most()", 1);
        due.is(sightsOf(1, 50, 60, 1, 10, 20, 1, 15, 55), "most()", 5);
        due.is(sightsOf(1, 50, 60, 1, 10, 20, 1, 15, 49), "most()", 6);
        due.is(sightsOf(1, 10, 20, 1, 20, 30, 1, 30, 40), "most()", 3);
        due.is(sightsOf(1, 30, 40, 1, 20, 30, 1, 10, 20), "most()", 3);
        due.is(sightsOf(1, 9, 9, 2, 18, 18, 3, 27, 28, 4, 37, 99), "most()", 7);
        due.is(sightsOf(1, 0, 1, 1, 2, 3, 1, 4, 5, 1, 6, 7, 1, 8, 9), "most()", 1);
        due.is(sightsOf(1, 8, 9, 1, 6, 7, 1, 0, 1, 1, 2, 3, 1, 1, 2), "most()", 20);
    }

    private void span() {
        due.says("Terms", "SPAN of a set that AGREES: from the greatest lo by m to the least hi by m.");
        SkinLoads x = sightsOf(4, 10, 30, 6, 14, 50, 10, 5, 72);
        due.isShare(x, "span(7, 0)", 5, 2);
        due.isShare(x, "span(7, 1)", 36, 5);
        due.isShare(x, "span(3, 1)", 15, 2);
        due.isShare(x, "span(6, 0)", 7, 3);
        due.isShare(x, "span(4, 0)", 1, 2);
        SkinLoads touching = sightsOf(3, 1, 2, 6, 4, 9);
        due.isShare(touching, "span(3, 0)", 2, 3);
        due.isShare(touching, "span(3, 1)", 2, 3);
        due.isShare(sightsOf(7, 0, 0), "span(1, 0)", 0, 1);
        due.isShare(sightsOf(7, 0, 0), "span(1, 1)", 0, 1);
    }

    private void sightAnswers() {
        due.says(27, "A SIGHT: its number.");
        SkinLoads x = new SkinLoads();
        due.is(x, "sight(1, 2, 3)", 0);
        due.is(x, "sight(1, 2, 3)", 1);
        due.is(x, "sight(0, 2, 3)", Edges.OUTSIDE);
        due.is(x, "sight(1, 4, 4)", 2);
        due.is(x, "quarrel(1, 2)", 1);
    }

    private void isOutside(String call) {
        due.changesNothing(Made::full, call, Edges.OUTSIDE);
        due.changesNothing(Made::fresh, call, Edges.OUTSIDE);
    }

    private void sightOutside() {
        due.says(27, "OUTSIDE: m, lo, hi (it is below lo, too);");
        isOutside("sight(0, 1, 1)");
        isOutside("sight(100, 1, 1)");
        isOutside("sight(-1, 1, 1)");
        isOutside("sight(1, -1, 1)");
        isOutside("sight(1, 100000, 100000)");
        isOutside("sight(1, 0, 100000)");
        isOutside("sight(1, 1, 0)");
        isOutside("sight(1, 99999, 99998)");
        isOutside("sight(1, 0, -1)");
        SkinLoads x = new SkinLoads();
        due.is(x, "sight(1, 5, 4)", Edges.OUTSIDE);
        due.is(x, "sight(1, 5, 5)", 0);
    }

    private void sightFull() {
        due.says(27, "FULL.");
        due.changesNothing(Made::full, "sight(1, 0, 99999)", Edges.FULL);
        due.changesNothing(Made::full, "sight(99, 5, 5)", Edges.FULL);
    }

    private void quarrelAnswers() {
        due.says(28, "Whether two SIGHTS do not AGREE: 1, 0.");
        SkinLoads x = sightsOf(1, 0, 1, 1, 1, 2, 1, 2, 3);
        due.is(x, "quarrel(0, 1)", 0);
        due.is(x, "quarrel(0, 2)", 1);
        due.is(x, "quarrel(2, 0)", 1);
        due.is(x, "quarrel(2, 2)", 0);
        due.changesNothing(Made::full, "quarrel(0, 11)", 0);
        due.changesNothing(Made::full, "quarrel(11, 1)", 0);
        due.changesNothing(Made::full, "quarrel(11, 11)", 0);
    }

    private void quarrelRefused() {
        due.says(28, "UNKNOWN.");
        due.changesNothing(Made::full, "quarrel(-1, 0)", Edges.UNKNOWN);
        due.changesNothing(Made::full, "quarrel(0, -1)", Edges.UNKNOWN);
        due.changesNothing(Made::full, "quarrel(12, 0)", Edges.UNKNOWN);
        due.changesNothing(Made::full, "quarrel(0, 12)", Edges.UNKNOWN);
        due.changesNothing(Made::fresh, "quarrel(0, 0)", Edges.UNKNOWN);
        SkinLoads x = sightsOf(1, 0, 1);
        due.is(x, "quarrel(0, 1)", Edges.UNKNOWN);
        due.is(x, "quarrel(1, 0)", Edges.UNKNOWN);
        due.is(x, "quarrel(0, 0)", 0);
    }

    private void mostAnswers() {
        due.says(29, "MOST.");
        due.changesNothing(Made::fresh, "most()", 0);
        due.changesNothing(Made::full, "most()", 4095);
        SkinLoads apart = new SkinLoads();
        for (int k = 0; k < 12; k++) {
            apart.sight(1, 10 * k, 10 * k + 5);
        }
        due.is(apart, "most()", 1);
        SkinLoads last = new SkinLoads();
        for (int k = 0; k < 12; k++) {
            last.sight(1, k < 10 ? 10 * k : 500, k < 10 ? 10 * k + 5 : 500);
        }
        due.is(last, "most()", 3072);
    }

    private void spanAnswers() {
        due.says(30, "SPAN of a set: the least e (end 0), the greatest (1), upper, lower number (which).");
        SkinLoads x = sightsOf(4, 10, 30);
        due.is(x, "span(1, 0, 0)", 5);
        due.is(x, "span(1, 0, 1)", 2);
        due.is(x, "span(1, 1, 0)", 15);
        due.is(x, "span(1, 1, 1)", 2);
        due.changesNothing(Made::full, "span(4095, 0, 0)", 275);
        due.changesNothing(Made::full, "span(2048, 1, 1)", 2);
    }

    private void spanRefused() {
        due.says(30, "LOST: OUTSIDE: set (none, too), end, which; STATE: it does not AGREE.");
        for (String call : new String[] {"span(0, 0, 0)", "span(4096, 0, 0)", "span(-1, 0, 0)", "span(-2147483648, 0, 0)",
            "span(4097, 0, 0)", "span(1, -1, 0)", "span(1, 2, 0)", "span(1, 0, -1)", "span(1, 0, 2)"}) {
            due.changesNothing(Made::full, call, Edges.LOST);
        }
        due.changesNothing(Made::fresh, "span(0, 0, 0)", Edges.LOST);
        due.changesNothing(Made::fresh, "span(1, 0, 0)", Edges.LOST);
        Edges.Making three = () -> sightsOf(1, 0, 1, 1, 1, 2, 1, 2, 3);
        due.changesNothing(three, "span(8, 0, 0)", Edges.LOST);
        due.changesNothing(three, "span(9, 0, 0)", Edges.LOST);
        due.changesNothing(three, "span(5, 0, 0)", Edges.LOST);
        due.changesNothing(three, "span(7, 1, 1)", Edges.LOST);
        due.changesNothing(three, "span(6, 1, 0)", 2);
    }
}

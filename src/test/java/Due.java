/** Counts the answers that are not as due; a test ends with exit code 1 if there was one. */
final class Due {
    static final long LOST = SkinLoads.LOST;

    private final String test;
    private int asked;
    private int wrong;

    Due(String test) {
        this.test = test;
    }

    void is(String call, long got, long want) {
        asked++;
        if (got != want) {
            wrong++;
            System.out.println(test + ": " + call + " answered " + got + ", due is " + want);
        }
    }

    void holds(String what, boolean is) {
        is(what, is ? 1 : 0, 1);
    }

    /** Leaves a text in a new row of a sheet: as many cells as it has signs. */
    static void write(SkinLoads x, int sheet, int lane, String text) {
        x.sheet(sheet, lane, text.length());
        for (int i = 0; i < text.length(); i++) {
            x.put(sheet, i, text.charAt(i));
        }
    }

    static int readDome(SkinLoads x, String text) {
        write(x, 0, 0, text);
        return x.text(0, 0, 0, text.length());
    }

    void end() {
        System.out.println(test + ": " + asked + " answers, " + wrong + " not as due");
        if (wrong != 0) {
            System.exit(1);
        }
    }
}

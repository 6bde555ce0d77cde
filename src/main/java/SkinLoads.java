import java.util.Arrays;

/**
 * Thin skins that carry: a dome, a rib, a net of bars, a skin of square pieces, sights of a
 * stiffness, and sheets of numbers. The face checks what it is given, in the order in which the
 * document tells the refusals; the classes inside hold the state and reckon.
 */
public final class SkinLoads {
    public static final int UNKNOWN = -1, OUTSIDE = -2, STATE = -3, FULL = -4, NONE = -9;
    public static final long LOST = Long.MIN_VALUE;

    private static final int NO_FAULT = 0, NULL_FAULT = 1, CAST_FAULT = 2, INDEX_FAULT = 3, SIZE_FAULT = 4;

    private final Dome dome;
    private final Rib theRib;
    private final Net theNet;
    private final Skin theSkin;
    private final Sights sights;
    private final Sheets sheets;
    private int latestFault;

    public SkinLoads() {
        dome = new Dome();
        theRib = new Rib();
        theNet = new Net();
        theSkin = new Skin();
        sights = new Sights();
        sheets = new Sheets();
        latestFault = NO_FAULT;
    }

    // ---- 1 the dome

    public int text(int sheet, int lane, int i, int n) {
        latestFault = NO_FAULT;
        if (!Sheets.isSheet(sheet)) {
            return UNKNOWN;
        }
        if (!Sheets.isLane(lane)) {
            return OUTSIDE;
        }
        int fault = sheets.faultOfCells(sheet, lane, i, n);
        if (fault != NO_FAULT) {
            return faultAnswer(fault);
        }
        for (int place = 0; place < n; place++) {
            dome.takeCode(place, sheets.number(sheet, i + place));
        }
        return dome.becomeText(n);
    }

    public int panel(int p, int what) {
        if (!dome.isPanel(p)) {
            return UNKNOWN;
        }
        if (what < 0 || what > 5) {
            return OUTSIDE;
        }
        return dome.aboutPanel(p, what);
    }

    public long thrust(int p, int which) {
        if (!dome.isPanel(p) || !isHalf(which)) {
            return LOST;
        }
        return dome.thrustOf(p, which);
    }

    public long pull(int p, int which) {
        if (!dome.isPanel(p) || !isHalf(which)) {
            return LOST;
        }
        return dome.pullOf(p, which);
    }

    public int thick(int strength, int p) {
        if (strength < 1 || strength > 9999) {
            return OUTSIDE;
        }
        if (dome.howMany() == 0 || p != -1 && !dome.isPanel(p)) {
            return UNKNOWN;
        }
        return dome.thickness(strength, p);
    }

    // ---- 2 the rib

    public int rib(int links) {
        if (links < 2 || links > Rib.MOST_LINKS) {
            return OUTSIDE;
        }
        return theRib.begin(links);
    }

    public int spring(int j, int k) {
        if (!theRib.isJoint(j)) {
            return UNKNOWN;
        }
        if (k < 1 || k > 20) {
            return OUTSIDE;
        }
        return theRib.changeSpring(j, k);
    }

    public long poly(int k) {
        if (!theRib.isPower(k)) {
            return LOST;
        }
        return theRib.numberByPower(k);
    }

    public int folds(int a, int b) {
        if (!Rib.isShare(a, b)) {
            return OUTSIDE;
        }
        return theRib.foldsBelow(a, b);
    }

    public int fold(int a, int b) {
        if (!Rib.isShare(a, b)) {
            return OUTSIDE;
        }
        return theRib.foldsAt(a, b);
    }

    public int bound(int b) {
        if (!Rib.isShare(0, b)) {
            return OUTSIDE;
        }
        return theRib.greatestWithoutFold(b);
    }

    // ---- 3 the net

    public int joint(int x, int y, boolean held) {
        if (!Net.isPlace(x) || !Net.isPlace(y)) {
            return OUTSIDE;
        }
        if (theNet.isTaken(x, y)) {
            return STATE;
        }
        if (!theNet.hasRoomForJoint(held)) {
            return FULL;
        }
        return theNet.addJoint(x, y, held);
    }

    public int bar(int kind, int a, int b, int strength) {
        if (!theNet.isJoint(a) || !theNet.isJoint(b)) {
            return UNKNOWN;
        }
        if (a == b || !Net.isKind(kind) || strength < 1 || strength > 999) {
            return OUTSIDE;
        }
        if (theNet.isJoined(a, b)) {
            return STATE;
        }
        if (!theNet.hasRoomForBar()) {
            return FULL;
        }
        return theNet.addBar(kind, a, b, strength);
    }

    public int cut(int b, boolean is) {
        Bar bar = theNet.barOf(b);
        if (bar == null) {
            return UNKNOWN;
        }
        if (bar.gone == is) {
            return 0;
        }
        theNet.changeCut(bar, is);
        return 1;
    }

    public int about(int b, int what) {
        Bar bar = theNet.barOf(b);
        if (bar == null) {
            return UNKNOWN;
        }
        switch (what) {
            case 0:
                return bar.kindNumber();
            case 1:
                return bar.from;
            case 2:
                return bar.to;
            case 3:
                return bar.strength;
            case 4:
                return bar.gone ? 1 : 0;
            default:
                return OUTSIDE;
        }
    }

    public int load(int c, int joint, int x, int y) {
        if (!Net.isCase(c) || !theNet.isJoint(joint)) {
            return UNKNOWN;
        }
        if (!Net.isLoad(x) || !Net.isLoad(y)) {
            return OUTSIDE;
        }
        if (!theNet.isFree(joint)) {
            return STATE;
        }
        theNet.changeLoad(c, joint, x, y);
        return 1;
    }

    public int net(int what) {
        theNet.reckon();
        switch (what) {
            case 0:
                return theNet.rank();
            case 1:
                return theNet.moves();
            case 2:
                return theNet.loose();
            default:
                return OUTSIDE;
        }
    }

    public long move(int joint, int way) {
        if (!theNet.isJoint(joint) || way < 0 || way > 1) {
            return LOST;
        }
        theNet.reckon();
        if (!theNet.isFree(joint) || theNet.moves() != 1) {
            return LOST;
        }
        return theNet.moveOf(joint, way);
    }

    public int stands(int c) {
        if (!Net.isCase(c)) {
            return UNKNOWN;
        }
        theNet.reckon();
        return theNet.carries(c) ? 1 : 0;
    }

    public long push(int c, int b, int which) {
        Bar bar = theNet.barOf(b);
        theNet.reckon();
        if (!Net.isCase(c) || bar == null || !isHalf(which) || !theNet.isTold(c)) {
            return LOST;
        }
        return inLeastTerms(theNet.upperPush(c, bar), theNet.lowerPush(), which);
    }

    public long limit(int c, int what) {
        theNet.reckon();
        if (!Net.isCase(c) || what < 0 || what > 2 || !theNet.isTold(c)) {
            return LOST;
        }
        return theNet.limitOf(c, what);
    }

    public int needs(int c) {
        if (!Net.isCase(c)) {
            return UNKNOWN;
        }
        theNet.reckon();
        if (!theNet.carries(c)) {
            return STATE;
        }
        return theNet.neededBars(c);
    }

    public int order(int set, int i) {
        if (set < 1 || set >= 1 << Net.CASES) {
            return OUTSIDE;
        }
        if (i < 0 || i >= Integer.bitCount(set)) {
            return UNKNOWN;
        }
        theNet.reckon();
        if (!theNet.areTold(set)) {
            return STATE;
        }
        return theNet.orderedCase(set, i);
    }

    // ---- 4 the skin

    public int hole(int row, int column, boolean out) {
        if (!Skin.isPiece(row, column)) {
            return UNKNOWN;
        }
        return theSkin.change(row, column, out);
    }

    public int skin(int what) {
        switch (what) {
            case 0:
                return theSkin.piecesThere();
            case 1:
                return theSkin.tornLots();
            case 2:
                return theSkin.lakes();
            case 3:
                return theSkin.shortestCut() == 0 ? 1 : 0;
            case 4:
                return theSkin.shortestCut();
            default:
                return OUTSIDE;
        }
    }

    // ---- 5 sights

    public int sight(int m, int lo, int hi) {
        if (m < 1 || m > 99 || lo < 0 || lo > 99999 || hi < lo || hi > 99999) {
            return OUTSIDE;
        }
        if (sights.isFull()) {
            return FULL;
        }
        return sights.addSight(m, lo, hi);
    }

    public int quarrel(int a, int b) {
        if (!sights.isSight(a) || !sights.isSight(b)) {
            return UNKNOWN;
        }
        return sights.agree(1 << a | 1 << b) ? 0 : 1;
    }

    public int most() {
        return sights.greatestAgreeing();
    }

    public long span(int set, int end, int which) {
        if (!sights.isSet(set) || end < 0 || end > 1 || !isHalf(which) || !sights.agree(set)) {
            return LOST;
        }
        return sights.endOf(set, end, which);
    }

    // ---- 6 sheets, parts

    public int sheet(int k, int lane, int n) {
        latestFault = NO_FAULT;
        if (!Sheets.isSheet(k)) {
            return UNKNOWN;
        }
        if (!Sheets.isLane(lane) || n > Sheets.MOST_CELLS) {
            return OUTSIDE;
        }
        if (n < 0) {
            return faultAnswer(SIZE_FAULT);
        }
        sheets.begin(k, lane, n);
        return 1;
    }

    public int lose(int k) {
        if (!Sheets.isSheet(k)) {
            return UNKNOWN;
        }
        return sheets.drop(k);
    }

    public int put(int k, int i, int v) {
        latestFault = NO_FAULT;
        if (!Sheets.isSheet(k)) {
            return UNKNOWN;
        }
        int fault = sheets.faultOfCell(k, i);
        if (fault != NO_FAULT) {
            return faultAnswer(fault);
        }
        sheets.write(k, i, v);
        return 1;
    }

    public long cell(int k, int i, int lane) {
        latestFault = NO_FAULT;
        if (!Sheets.isSheet(k) || !Sheets.isLane(lane)) {
            return LOST;
        }
        int fault = sheets.isOtherLane(k, lane) ? CAST_FAULT : sheets.faultOfCell(k, i);
        if (fault != NO_FAULT) {
            latestFault = fault;
            return LOST;
        }
        return sheets.number(k, i);
    }

    public int tell(int b) {
        Bar bar = theNet.barOf(b);
        if (bar == null) {
            return UNKNOWN;
        }
        return bar.telling(theNet.trail);
    }

    public int sign(int b) {
        Bar bar = theNet.barOf(b);
        if (bar == null) {
            return UNKNOWN;
        }
        return bar.signing(theNet.trail);
    }

    public int as(int b, int kind) {
        latestFault = NO_FAULT;
        Bar bar = theNet.barOf(b);
        if (bar == null) {
            return UNKNOWN;
        }
        if (!Net.isKind(kind)) {
            return OUTSIDE;
        }
        if (kind == 1 && !(bar instanceof Flat) || kind == 2 && !(bar instanceof Bent)) {
            return faultAnswer(CAST_FAULT);
        }
        return 1;
    }

    public int trace() {
        return theNet.trail.value;
    }

    public int fault() {
        return latestFault;
    }

    public int many(int what) {
        switch (what) {
            case 0:
                return dome.howMany();
            case 1:
                return theRib.howManyLinks();
            case 2:
                return theNet.howManyJoints();
            case 3:
                return theNet.howManyFree();
            case 4:
                return theNet.howManyBars();
            case 5:
                return theNet.howManyCut();
            case 6:
                return sights.howMany();
            default:
                return OUTSIDE;
        }
    }

    // ---- what several of them use

    private int faultAnswer(int fault) {
        latestFault = fault;
        return -10 - fault;
    }

    private static boolean isHalf(int which) {
        return which == 0 || which == 1;
    }

    private static long commonDivisor(long a, long b) {
        long divisor = Math.abs(a);
        long rest = Math.abs(b);
        for (int step = 0; step < 1000 && rest != 0; step++) {
            long next = divisor % rest;
            divisor = rest;
            rest = next;
        }
        return divisor;
    }

    /** The upper (which 0) or lower number (1) of a share, the lower one above 0. */
    private static long inLeastTerms(long upper, long lower, int which) {
        long divisor = commonDivisor(upper, lower);
        if (lower == 0 || divisor == 0) {
            return LOST;
        }
        if (lower < 0) {
            divisor = -divisor;
        }
        return which == 0 ? upper / divisor : lower / divisor;
    }

    private static long wholeRoot(long square) {
        long root = 0;
        for (int bit = 30; bit >= 0; bit--) {
            long next = root + (1L << bit);
            if (next * next <= square) {
                root = next;
            }
        }
        return root;
    }

    /** The dome, and the reader of its text. */
    private static final class Dome {
        private static final int MOST_PANELS = 8, MOST_CODES = 60, MOST_THICK = 5, NEVER = 1000000;
        private static final int RING = 114, COMMA = 44, WEIGHT = 119, BETWEEN = 59, ZERO = 48, NINE = 57;
        private static final int NOT_WRONG = -1;

        private final int[] outs = new int[MOST_PANELS];
        private final int[] downs = new int[MOST_PANELS];
        private final int[] weights = new int[MOST_PANELS];
        private int panels;

        // A text is read whole before the dome changes, as a wrong one changes nothing.
        private final int[] codes = new int[MOST_CODES];
        private final int[] readOuts = new int[MOST_PANELS];
        private final int[] readDowns = new int[MOST_PANELS];
        private final int[] readWeights = new int[MOST_PANELS];
        private int codeCount;
        private int at;
        private int firstWrong;

        // By panel and thickness: the least sum from that panel down, NEVER if there is none.
        private final int[][] sums = new int[MOST_PANELS][MOST_THICK + 1];

        int howMany() {
            return panels;
        }

        boolean isPanel(int p) {
            return p >= 0 && p < panels;
        }

        void takeCode(int place, int code) {
            if (place >= 0 && place < MOST_CODES) {
                codes[place] = code;
            }
        }

        int becomeText(int count) {
            codeCount = Math.max(0, Math.min(count, MOST_CODES));
            at = 0;
            firstWrong = NOT_WRONG;
            int items = readItems();
            if (firstWrong != NOT_WRONG) {
                return -100 - firstWrong;
            }
            for (int p = 0; p < items; p++) {
                outs[p] = readOuts[p];
                downs[p] = readDowns[p];
                weights[p] = readWeights[p];
            }
            panels = items;
            return panels;
        }

        private int readItems() {
            int items = 0;
            boolean goesOn = true;
            while (goesOn && items < MOST_PANELS) {
                readItem(items);
                items++;
                goesOn = firstWrong == NOT_WRONG && items < MOST_PANELS && stepOver(BETWEEN);
            }
            if (at < codeCount) {
                wrongAt(at);
            }
            return items;
        }

        private void readItem(int item) {
            need(RING);
            readOuts[item] = readNumber(0, 99);
            need(COMMA);
            readDowns[item] = readNumber(1, 99);
            readWeights[item] = 0;
            if (firstWrong == NOT_WRONG && stepOver(WEIGHT)) {
                readWeights[item] = readNumber(0, 999);
            }
        }

        private void wrongAt(int place) {
            if (firstWrong == NOT_WRONG) {
                firstWrong = place;
            }
        }

        private boolean stepOver(int code) {
            if (at < 0 || at >= codeCount || codes[at] != code) {
                return false;
            }
            at++;
            return true;
        }

        private void need(int code) {
            if (firstWrong == NOT_WRONG && !stepOver(code)) {
                wrongAt(at);
            }
        }

        private int readNumber(int low, int high) {
            int start = at;
            int number = 0;
            while (at < codeCount && at < start + 3 && codes[at] >= ZERO && codes[at] <= NINE) {
                number = 10 * number + codes[at] - ZERO;
                at++;
            }
            if (at == start || number < low || number > high) {
                wrongAt(start);
            }
            return number;
        }

        int aboutPanel(int p, int what) {
            if (!isPanel(p)) {
                return UNKNOWN;
            }
            switch (what) {
                case 0:
                    return outs[p];
                case 1:
                    return downs[p];
                case 2:
                    return weights[p];
                case 3:
                    return weightDownTo(p);
                case 4:
                    return pushAlong(p);
                default:
                    return lengthOf(p);
            }
        }

        private int weightDownTo(int p) {
            int sum = 0;
            for (int above = 0; above <= p && above < panels; above++) {
                sum += weights[above];
            }
            return sum;
        }

        private long squareOf(int p) {
            return (long) outs[p] * outs[p] + (long) downs[p] * downs[p];
        }

        private int pushAlong(int p) {
            long weight = weightDownTo(p);
            long down = downs[p];
            return down == 0 ? 0 : (int) wholeRoot(weight * weight * squareOf(p) / (down * down));
        }

        private int lengthOf(int p) {
            return (int) wholeRoot(squareOf(p));
        }

        long thrustOf(int p, int which) {
            return isPanel(p) ? inLeastTerms((long) weightDownTo(p) * outs[p], downs[p], which) : LOST;
        }

        long pullOf(int p, int which) {
            if (!isPanel(p + 1)) {
                return thrustOf(p, which);
            }
            long upper = (long) weightDownTo(p) * outs[p] * downs[p + 1]
                    - (long) weightDownTo(p + 1) * outs[p + 1] * downs[p];
            return inLeastTerms(upper, (long) downs[p] * downs[p + 1], which);
        }

        /** The thickness of a panel in the best row; the least sum, if there is no such panel. */
        int thickness(int strength, int p) {
            for (int above = panels - 1; above >= 0; above--) {
                sumFrom(above, strength);
            }
            int thickness = bestThickness(0, 1, MOST_THICK);
            if (thickness == 0) {
                return NONE;
            }
            if (!isPanel(p)) {
                return sums[0][thickness];
            }
            for (int below = 1; below <= p; below++) {
                thickness = bestThickness(below, thickness - 1, thickness + 1);
            }
            return thickness;
        }

        private void sumFrom(int p, int strength) {
            int push = pushAlong(p);
            int length = lengthOf(p);
            for (int thickness = 1; thickness <= MOST_THICK; thickness++) {
                int below = 0;
                if (isPanel(p + 1)) {
                    int next = bestThickness(p + 1, thickness - 1, thickness + 1);
                    below = next == 0 ? NEVER : sums[p + 1][next];
                }
                boolean holds = thickness * strength >= push && below < NEVER;
                sums[p][thickness] = holds ? thickness * length + below : NEVER;
            }
        }

        /** Of the thicknesses told the thinnest of the least sum; 0 if none holds. */
        private int bestThickness(int p, int low, int high) {
            int best = 0;
            int least = NEVER;
            for (int thickness = Math.max(1, low); thickness <= Math.min(MOST_THICK, high); thickness++) {
                if (sums[p][thickness] < least) {
                    least = sums[p][thickness];
                    best = thickness;
                }
            }
            return best;
        }
    }

    /** The rib and its polynomial. */
    private static final class Rib {
        private static final int MOST_LINKS = 5, MOST_INNER = MOST_LINKS - 1, MOST_SHARE = 999;

        private int links;
        private final int[] springs = new int[MOST_LINKS];
        private final long[][] bending = new long[MOST_INNER][MOST_INNER];
        private final long[][] shortening = new long[MOST_INNER][MOST_INNER];
        // By set of columns: the determinant of as many first rows with these columns, by powers.
        private final long[][] minors = new long[1 << MOST_INNER][MOST_INNER + 1];
        private final long[] polynomial = new long[MOST_INNER + 1];
        private final long[] shifted = new long[MOST_INNER + 1];
        private final int[] factors = new int[MOST_LINKS + 1];

        Rib() {
            begin(2);
        }

        int begin(int newLinks) {
            links = Math.max(2, Math.min(newLinks, MOST_LINKS));
            Arrays.fill(springs, 1);
            makePolynomial();
            return links - 1;
        }

        int howManyLinks() {
            return links;
        }

        boolean isJoint(int j) {
            return j >= 1 && j < links;
        }

        boolean isPower(int k) {
            return k >= 0 && k < links;
        }

        static boolean isShare(int a, int b) {
            return a >= 0 && a <= MOST_SHARE && b >= 1 && b <= 99;
        }

        int changeSpring(int j, int k) {
            if (!isJoint(j)) {
                return UNKNOWN;
            }
            int before = springs[j];
            springs[j] = k;
            makePolynomial();
            return before;
        }

        long numberByPower(int k) {
            return isPower(k) ? polynomial[k] : LOST;
        }

        private void makePolynomial() {
            int size = links - 1;
            fillTables();
            Arrays.fill(minors[0], 0);
            minors[0][0] = 1;
            for (int set = 1; set < 1 << size; set++) {
                makeMinor(set);
            }
            int all = (1 << size) - 1;
            for (int k = 0; k <= size; k++) {
                polynomial[k] = minors[all][k];
            }
        }

        private void fillTables() {
            for (int row = 0; row < MOST_INNER; row++) {
                Arrays.fill(bending[row], 0);
                Arrays.fill(shortening[row], 0);
            }
            for (int j = 1; j < links; j++) {
                Arrays.fill(factors, 0);
                factors[j - 1] = 1;
                factors[j] = -2;
                factors[j + 1] = 1;
                addSquare(bending, springs[j]);
            }
            for (int link = 0; link < links; link++) {
                Arrays.fill(factors, 0);
                factors[link] = -1;
                factors[link + 1] = 1;
                addSquare(shortening, 1);
            }
        }

        /** Adds the square of the sum of ways off the line by factors; the ends' are 0. */
        private void addSquare(long[][] table, int times) {
            for (int row = 1; row < links; row++) {
                for (int column = 1; column < links; column++) {
                    table[row - 1][column - 1] += (long) times * factors[row] * factors[column];
                }
            }
        }

        /** Goes along the last of the rows; a column counts by how many of the set are behind it. */
        private void makeMinor(int set) {
            int row = Integer.bitCount(set) - 1;
            long[] minor = minors[set];
            Arrays.fill(minor, 0);
            for (int column = 0; column < MOST_INNER; column++) {
                if ((set >> column & 1) == 1) {
                    long sign = (Integer.bitCount(set >> column + 1) & 1) == 0 ? 1 : -1;
                    long[] rest = minors[set ^ 1 << column];
                    for (int k = 0; k <= row; k++) {
                        minor[k] += sign * bending[row][column] * rest[k];
                        minor[k + 1] -= sign * shortening[row][column] * rest[k];
                    }
                }
            }
        }

        /** Moves the polynomial so that the share stands at 0; roots keep their order and count. */
        private void shiftTo(int a, int b) {
            int degree = links - 1;
            long power = 1;
            for (int k = degree; k >= 0; k--) {
                shifted[k] = polynomial[k] * power;
                power *= b;
            }
            for (int done = 0; done < degree; done++) {
                for (int k = degree - 1; k >= done; k--) {
                    shifted[k] += a * shifted[k + 1];
                }
            }
        }

        /** All roots are real, so the changes of sign count the roots below exactly. */
        int foldsBelow(int a, int b) {
            shiftTo(a, b);
            int changes = 0;
            int before = 0;
            for (int k = 0; k < links; k++) {
                int sign = Long.compare((k & 1) == 0 ? shifted[k] : -shifted[k], 0);
                if (sign != 0) {
                    changes += before * sign < 0 ? 1 : 0;
                    before = sign;
                }
            }
            return changes;
        }

        int foldsAt(int a, int b) {
            shiftTo(a, b);
            int times = 0;
            while (times < links - 1 && shifted[times] == 0) {
                times++;
            }
            return times;
        }

        int greatestWithoutFold(int b) {
            int without = 0;
            int beyond = MOST_SHARE + 1;
            for (int step = 0; step < 20 && beyond - without > 1; step++) {
                int middle = (without + beyond) / 2;
                if (foldsBelow(middle, b) == 0) {
                    without = middle;
                } else {
                    beyond = middle;
                }
            }
            return without;
        }
    }

    /** A table of whole numbers, cleared column by column without fractions. */
    private static final class Table {
        private final int mostRows;
        private final int mostColumns;
        private final long[][] numbers;
        private final int[] rowOfColumn;
        private int rows;
        private int columns;
        private int rank;
        private long scale;

        Table(int mostRows, int mostColumns) {
            this.mostRows = Math.max(1, Math.min(mostRows, 100));
            this.mostColumns = Math.max(1, Math.min(mostColumns, 100));
            numbers = new long[this.mostRows][this.mostColumns];
            rowOfColumn = new int[this.mostColumns];
            begin(0, 0);
        }

        void begin(int newRows, int newColumns) {
            rows = Math.max(0, Math.min(newRows, mostRows));
            columns = Math.max(0, Math.min(newColumns, mostColumns));
            rank = 0;
            scale = 1;
            for (int row = 0; row < mostRows; row++) {
                Arrays.fill(numbers[row], 0);
            }
            Arrays.fill(rowOfColumn, -1);
        }

        private boolean isThere(int row, int column) {
            return row >= 0 && row < rows && column >= 0 && column < columns;
        }

        void add(int row, int column, long number) {
            if (isThere(row, column)) {
                numbers[row][column] += number;
            }
        }

        long number(int row, int column) {
            return isThere(row, column) ? numbers[row][column] : 0;
        }

        /** The row that a column leads; -1 if it leads none. */
        int leads(int column) {
            return column >= 0 && column < columns ? rowOfColumn[column] : -1;
        }

        /** Clears among the first columns: each leading number becomes the scale, alone in its column. */
        void clearColumns(int leading) {
            for (int column = 0; column < leading && column < columns && rank < rows; column++) {
                int row = rowToLead(column);
                if (row >= 0) {
                    long[] line = numbers[row];
                    numbers[row] = numbers[rank];
                    numbers[rank] = line;
                    clearOthers(column);
                    scale = line[column];
                    rowOfColumn[column] = rank;
                    rank++;
                }
            }
        }

        private int rowToLead(int column) {
            for (int row = rank; row < rows; row++) {
                if (numbers[row][column] != 0) {
                    return row;
                }
            }
            return -1;
        }

        /** Every number stays a determinant of a part of the first table, so the scale divides it. */
        private void clearOthers(int column) {
            long[] line = numbers[rank];
            long lead = line[column];
            for (int row = 0; row < rows; row++) {
                if (row != rank && scale != 0) {
                    long[] other = numbers[row];
                    long times = other[column];
                    for (int k = 0; k < columns; k++) {
                        other[k] = (lead * other[k] - times * line[k]) / scale;
                    }
                }
            }
        }
    }

    /** The net: joints, bars, loads, and what they carry. */
    private static final class Net {
        private static final int MOST_JOINTS = 8, MOST_FREE = 4, MOST_BARS = 16, CASES = 6;
        private static final int MOST_ROWS = 2 * MOST_FREE, HELD = -1;

        private final Trail trail = new Trail();
        private final int[] xs = new int[MOST_JOINTS];
        private final int[] ys = new int[MOST_JOINTS];
        private final int[] freeNumbers = new int[MOST_JOINTS];
        private int joints;
        private int freeJoints;
        private final Bar[] bars = new Bar[MOST_BARS];
        private int barCount;
        private final int[][] loads = new int[CASES][MOST_ROWS];

        // A row for each way of a free joint; columns for the bars that are not cut, and behind
        // them one for each case. It is made anew only where something has changed since.
        private final Table forces = new Table(MOST_ROWS, MOST_BARS + CASES);
        private boolean changed = true;
        private int carrying;
        private final Table lengths = new Table(MOST_BARS, MOST_ROWS);
        private final long[] theMove = new long[MOST_ROWS];
        private final boolean[] comesToAll = new boolean[1 << CASES];

        static boolean isPlace(int x) {
            return x >= 0 && x <= 5;
        }

        static boolean isKind(int kind) {
            return kind >= 0 && kind <= 2;
        }

        static boolean isCase(int c) {
            return c >= 0 && c < CASES;
        }

        static boolean isLoad(int x) {
            return x >= -30 && x <= 30;
        }

        boolean isJoint(int joint) {
            return joint >= 0 && joint < joints;
        }

        boolean isFree(int joint) {
            return isJoint(joint) && freeNumbers[joint] != HELD;
        }

        boolean isTaken(int x, int y) {
            for (int joint = 0; joint < joints; joint++) {
                if (xs[joint] == x && ys[joint] == y) {
                    return true;
                }
            }
            return false;
        }

        boolean hasRoomForJoint(boolean held) {
            return joints < MOST_JOINTS && (held || freeJoints < MOST_FREE);
        }

        int addJoint(int x, int y, boolean held) {
            if (!hasRoomForJoint(held)) {
                return FULL;
            }
            xs[joints] = x;
            ys[joints] = y;
            freeNumbers[joints] = HELD;
            if (!held) {
                freeNumbers[joints] = freeJoints;
                freeJoints++;
            }
            changed = true;
            joints++;
            return joints - 1;
        }

        /** The bar of a number; null if there is none. */
        Bar barOf(int b) {
            return b >= 0 && b < barCount ? bars[b] : null;
        }

        boolean isJoined(int a, int b) {
            for (int k = 0; k < barCount; k++) {
                Bar bar = bars[k];
                if (bar.from == a && bar.to == b || bar.from == b && bar.to == a) {
                    return true;
                }
            }
            return false;
        }

        boolean hasRoomForBar() {
            return barCount < MOST_BARS;
        }

        int addBar(int kind, int a, int b, int strength) {
            if (!hasRoomForBar()) {
                return FULL;
            }
            switch (kind) {
                case 1:
                    bars[barCount] = new Flat(barCount, a, b, strength);
                    break;
                case 2:
                    bars[barCount] = new Bent(barCount, a, b, strength);
                    break;
                default:
                    bars[barCount] = new Bar(barCount, a, b, strength);
                    break;
            }
            changed = true;
            barCount++;
            return barCount - 1;
        }

        void changeCut(Bar bar, boolean is) {
            bar.gone = is;
            changed = true;
        }

        void changeLoad(int c, int joint, int x, int y) {
            if (isCase(c) && isFree(joint)) {
                loads[c][2 * freeNumbers[joint]] = x;
                loads[c][2 * freeNumbers[joint] + 1] = y;
                changed = true;
            }
        }

        int howManyJoints() {
            return joints;
        }

        int howManyFree() {
            return freeJoints;
        }

        int howManyBars() {
            return barCount;
        }

        int howManyCut() {
            int gone = 0;
            for (int b = 0; b < barCount; b++) {
                gone += bars[b].gone ? 1 : 0;
            }
            return gone;
        }

        /** Numbers the bars that are not cut by columns, and tells how many they are. */
        private int giveColumns() {
            int columns = 0;
            for (int b = 0; b < barCount; b++) {
                bars[b].column = bars[b].gone ? -1 : columns;
                columns += bars[b].gone ? 0 : 1;
            }
            return columns;
        }

        /** Solves all cases at once; whoever asks for what comes of it calls this first. */
        void reckon() {
            if (!changed) {
                return;
            }
            carrying = giveColumns();
            forces.begin(2 * freeJoints, carrying + CASES);
            for (int b = 0; b < barCount; b++) {
                if (!bars[b].gone) {
                    addForces(bars[b]);
                }
            }
            for (int c = 0; c < CASES; c++) {
                for (int row = 0; row < 2 * freeJoints; row++) {
                    forces.add(row, carrying + c, -loads[c][row]);
                }
            }
            forces.clearColumns(carrying);
            changed = false;
        }

        private void addForces(Bar bar) {
            for (int way = 0; way < 2; way++) {
                int along = differenceOf(bar, way);
                forces.add(rowOf(bar.from, way), bar.column, along);
                forces.add(rowOf(bar.to, way), bar.column, -along);
            }
        }

        private int differenceOf(Bar bar, int way) {
            if (!isJoint(bar.from) || !isJoint(bar.to)) {
                return 0;
            }
            return way == 0 ? xs[bar.to] - xs[bar.from] : ys[bar.to] - ys[bar.from];
        }

        /** The row of a free joint's way; -1, which no table has, of a held one. */
        private int rowOf(int joint, int way) {
            return isFree(joint) ? 2 * freeNumbers[joint] + way : -1;
        }

        int rank() {
            return forces.rank;
        }

        int moves() {
            return 2 * freeJoints - forces.rank;
        }

        int loose() {
            return carrying - forces.rank;
        }

        boolean carries(int c) {
            for (int row = forces.rank; row < forces.rows; row++) {
                if (forces.number(row, carrying + c) != 0) {
                    return false;
                }
            }
            return true;
        }

        boolean isTold(int c) {
            return loose() == 0 && carries(c);
        }

        boolean areTold(int set) {
            for (int c = 0; c < CASES; c++) {
                if ((set >> c & 1) == 1 && !isTold(c)) {
                    return false;
                }
            }
            return true;
        }

        long upperPush(int c, Bar bar) {
            return bar.gone ? 0 : forces.number(forces.leads(bar.column), carrying + c);
        }

        /** The lower number that all pushes share; it may be below 0. */
        long lowerPush() {
            return forces.scale;
        }

        long limitOf(int c, int what) {
            Bar first = null;
            long firstSize = 0;
            for (int b = 0; b < barCount; b++) {
                long size = Math.abs(upperPush(c, bars[b]));
                if (size != 0 && (first == null || bars[b].strength * firstSize < first.strength * size)) {
                    first = bars[b];
                    firstSize = size;
                }
            }
            if (first == null) {
                return NONE;
            }
            if (what == 2) {
                return first.number;
            }
            return inLeastTerms(first.strength * Math.abs(lowerPush()), firstSize, what);
        }

        /** A bar is needed, if its push is one alone (no other bar can change it) and not 0. */
        int neededBars(int c) {
            int needed = 0;
            for (int b = 0; b < barCount; b++) {
                if (upperPush(c, bars[b]) != 0 && !canChange(forces.leads(bars[b].column))) {
                    needed |= 1 << b;
                }
            }
            return needed;
        }

        private boolean canChange(int row) {
            for (int column = 0; column < carrying; column++) {
                if (forces.leads(column) < 0 && forces.number(row, column) != 0) {
                    return true;
                }
            }
            return false;
        }

        long moveOf(int joint, int way) {
            findMove();
            int row = rowOf(joint, way);
            return row >= 0 && row < MOST_ROWS ? theMove[row] : LOST;
        }

        private void findMove() {
            int ways = 2 * freeJoints;
            lengths.begin(carrying, ways);
            for (int b = 0; b < barCount; b++) {
                for (int way = 0; way < 2; way++) {
                    int along = differenceOf(bars[b], way);
                    lengths.add(bars[b].column, rowOf(bars[b].from, way), -along);
                    lengths.add(bars[b].column, rowOf(bars[b].to, way), along);
                }
            }
            lengths.clearColumns(ways);
            int open = ways - 1;
            while (open > 0 && lengths.leads(open) >= 0) {
                open--;
            }
            for (int k = 0; k < ways; k++) {
                theMove[k] = k == open ? lengths.scale : -lengths.number(lengths.leads(k), open);
            }
            shortenMove(ways);
        }

        private void shortenMove(int ways) {
            long divisor = 0;
            long first = 0;
            for (int k = 0; k < ways; k++) {
                divisor = commonDivisor(divisor, theMove[k]);
                first = first == 0 ? theMove[k] : first;
            }
            if (first < 0) {
                divisor = -divisor;
            }
            for (int k = 0; k < ways && divisor != 0; k++) {
                theMove[k] /= divisor;
            }
        }

        /** The case at a place of the first order in which none gives; NONE if there is no order. */
        int orderedCase(int set, int place) {
            for (int on = comesToAll.length - 1; on >= 0; on--) {
                boolean part = (on & ~set) == 0;
                comesToAll[on] = part && (on == set || firstToPutOn(set, on) >= 0) && noneGives(on);
            }
            int on = 0;
            int latest = NONE;
            for (int k = 0; k <= place && k < CASES; k++) {
                latest = comesToAll[0] ? firstToPutOn(set, on) : NONE;
                on |= latest >= 0 ? 1 << latest : 0;
            }
            return latest;
        }

        private int firstToPutOn(int set, int on) {
            for (int c = 0; c < CASES; c++) {
                int next = on | 1 << c;
                if ((set >> c & 1) == 1 && next != on && next < comesToAll.length && comesToAll[next]) {
                    return c;
                }
            }
            return NONE;
        }

        private boolean noneGives(int on) {
            for (int b = 0; b < barCount; b++) {
                long sum = 0;
                for (int c = 0; c < CASES; c++) {
                    sum += (on >> c & 1) == 1 ? upperPush(c, bars[b]) : 0;
                }
                if (Math.abs(sum) > bars[b].strength * Math.abs(lowerPush())) {
                    return false;
                }
            }
            return true;
        }
    }

    /** What the bodies of bars leave behind them. */
    private static final class Trail {
        private int value;

        void leave(int number) {
            value = 31 * value + number;
        }
    }

    /** A bar, with the bodies that all kinds have. */
    private static class Bar {
        final int number;
        final int from;
        final int to;
        final int strength;
        boolean gone;
        int column;

        Bar(int number, int from, int to, int strength) {
            this.number = number;
            this.from = from;
            this.to = to;
            this.strength = strength;
            column = -1;
        }

        int kindNumber() {
            return 0;
        }

        int telling(Trail trail) {
            return plainTelling(trail);
        }

        /** Apart from telling(), as a bent bar asks for it past the flat one's. */
        final int plainTelling(Trail trail) {
            trail.leave(1);
            return strength;
        }

        int signing(Trail trail) {
            trail.leave(4);
            return number;
        }
    }

    private static class Flat extends Bar {
        Flat(int number, int from, int to, int strength) {
            super(number, from, to, strength);
        }

        int kindNumber() {
            return 1;
        }

        int telling(Trail trail) {
            trail.leave(2);
            return plainTelling(trail) + (gone ? 1000 : 0);
        }
    }

    private static final class Bent extends Flat {
        Bent(int number, int from, int to, int strength) {
            super(number, from, to, strength);
        }

        int kindNumber() {
            return 2;
        }

        int telling(Trail trail) {
            trail.leave(3);
            int asFlat = super.telling(trail);
            return asFlat + plainTelling(trail);
        }

        int signing(Trail trail) {
            trail.leave(5);
            return 70;
        }
    }

    /** The skin of square pieces. */
    private static final class Skin {
        private static final int SIDE = 10, PIECES = SIDE * SIDE, PIECE = 0, GAP = 1;
        // The first four ways go over sides, the others over corners.
        private static final int[] ROW_STEPS = {-1, 0, 0, 1, -1, -1, 1, 1};
        private static final int[] COLUMN_STEPS = {0, -1, 1, 0, -1, 1, -1, 1};
        private static final int SIDES = 4, SIDES_AND_CORNERS = 8;

        private final int[] kinds = new int[PIECES];
        private final int[] seen = new int[PIECES];
        private final int[] waiting = new int[PIECES];
        private int waitingCount;
        private final int[] later = new int[PIECES];
        private int laterCount;

        static boolean isPiece(int row, int column) {
            return row >= 0 && row < SIDE && column >= 0 && column < SIDE;
        }

        int change(int row, int column, boolean out) {
            int kind = out ? GAP : PIECE;
            if (!isPiece(row, column) || kinds[row * SIDE + column] == kind) {
                return 0;
            }
            kinds[row * SIDE + column] = kind;
            return 1;
        }

        int piecesThere() {
            int there = 0;
            for (int place = 0; place < PIECES; place++) {
                there += kinds[place] == PIECE ? 1 : 0;
            }
            return there;
        }

        int tornLots() {
            return lotsApart(PIECE, SIDES);
        }

        int lakes() {
            return lotsApart(GAP, SIDES_AND_CORNERS);
        }

        private int lotsApart(int kind, int ways) {
            Arrays.fill(seen, 0);
            int lots = 0;
            for (int place = 0; place < PIECES; place++) {
                if (kinds[place] == kind && seen[place] == 0 && !reachesHold(place, ways)) {
                    lots++;
                }
            }
            return lots;
        }

        /** Goes through the whole lot of a place: whether one of it is held. */
        private boolean reachesHold(int start, int ways) {
            boolean held = false;
            waitingCount = 0;
            lineUp(start);
            for (int step = 0; step < PIECES && waitingCount > 0; step++) {
                waitingCount--;
                int place = waiting[waitingCount];
                held = held || isHold(place);
                for (int way = 0; way < ways; way++) {
                    int next = neighbour(place, way);
                    if (next >= 0 && kinds[next] == kinds[start]) {
                        lineUp(next);
                    }
                }
            }
            return held;
        }

        private static boolean isAtRim(int line) {
            return line == 0 || line == SIDE - 1;
        }

        /** Pieces are held by the last row, gaps are no lake if they come to the rim. */
        private boolean isHold(int place) {
            if (kinds[place] == PIECE) {
                return place / SIDE == SIDE - 1;
            }
            return isAtRim(place / SIDE) || isAtRim(place % SIDE);
        }

        private static int neighbour(int place, int way) {
            int row = place / SIDE + ROW_STEPS[way];
            int column = place % SIDE + COLUMN_STEPS[way];
            return isPiece(row, column) ? row * SIDE + column : -1;
        }

        private void lineUp(int place) {
            if (seen[place] == 0 && waitingCount < PIECES) {
                seen[place] = 1;
                waiting[waitingCount] = place;
                waitingCount++;
            }
        }

        private void lineUpForLater(int place) {
            if (seen[place] == 0 && laterCount < PIECES) {
                seen[place] = 1;
                later[laterCount] = place;
                laterCount++;
            }
        }

        private void comeTo(int place) {
            if (kinds[place] == GAP) {
                lineUp(place);
            } else {
                lineUpForLater(place);
            }
        }

        int shortestCut() {
            Arrays.fill(seen, 0);
            waitingCount = 0;
            laterCount = 0;
            for (int row = 0; row < SIDE; row++) {
                comeTo(row * SIDE);
            }
            // A straight row is a cut, so none is longer than a side.
            for (int cut = 0; cut < SIDE; cut++) {
                if (comesAcross()) {
                    return cut;
                }
                takeLater();
            }
            return SIDE;
        }

        /** Goes on through gaps as far as they lead: whether that is the last column. */
        private boolean comesAcross() {
            for (int step = 0; step < PIECES && waitingCount > 0; step++) {
                waitingCount--;
                int place = waiting[waitingCount];
                if (place % SIDE == SIDE - 1) {
                    return true;
                }
                for (int way = 0; way < SIDES_AND_CORNERS; way++) {
                    int next = neighbour(place, way);
                    if (next >= 0) {
                        comeTo(next);
                    }
                }
            }
            return false;
        }

        private void takeLater() {
            for (int k = 0; k < laterCount; k++) {
                waiting[k] = later[k];
            }
            waitingCount = laterCount;
            laterCount = 0;
        }
    }

    /** Sights of a stiffness. */
    private static final class Sights {
        private static final int MOST_SIGHTS = 12;

        private final int[] factors = new int[MOST_SIGHTS];
        private final int[] lows = new int[MOST_SIGHTS];
        private final int[] highs = new int[MOST_SIGHTS];
        private int count;

        int howMany() {
            return count;
        }

        boolean isFull() {
            return count >= MOST_SIGHTS;
        }

        boolean isSight(int a) {
            return a >= 0 && a < count;
        }

        boolean isSet(int set) {
            return set > 0 && set < 1 << count;
        }

        int addSight(int m, int lo, int hi) {
            if (isFull()) {
                return FULL;
            }
            factors[count] = m;
            lows[count] = lo;
            highs[count] = hi;
            count++;
            return count - 1;
        }

        private int greatestLow(int set) {
            int best = -1;
            for (int a = 0; a < count; a++) {
                if ((set >> a & 1) == 1 && (best < 0 || lows[a] * factors[best] > lows[best] * factors[a])) {
                    best = a;
                }
            }
            return best;
        }

        private int leastHigh(int set) {
            int best = -1;
            for (int a = 0; a < count; a++) {
                if ((set >> a & 1) == 1 && (best < 0 || highs[a] * factors[best] < highs[best] * factors[a])) {
                    best = a;
                }
            }
            return best;
        }

        boolean agree(int set) {
            int low = greatestLow(set);
            int high = leastHigh(set);
            return low < 0 || high < 0 || lows[low] * factors[high] <= highs[high] * factors[low];
        }

        /** The greatest set has all sights that hold the greatest low of it, so lows are enough. */
        int greatestAgreeing() {
            int best = 0;
            for (int a = 0; a < count; a++) {
                int set = holdLowOf(a);
                int more = Integer.bitCount(set) - Integer.bitCount(best);
                if (more > 0 || more == 0 && set < best) {
                    best = set;
                }
            }
            return best;
        }

        private int holdLowOf(int a) {
            int set = 0;
            for (int b = 0; b < count; b++) {
                int low = lows[a] * factors[b];
                if (lows[b] * factors[a] <= low && low <= highs[b] * factors[a]) {
                    set |= 1 << b;
                }
            }
            return set;
        }

        long endOf(int set, int end, int which) {
            int a = end == 0 ? greatestLow(set) : leastHigh(set);
            if (a < 0) {
                return LOST;
            }
            return inLeastTerms(end == 0 ? lows[a] : highs[a], factors[a], which);
        }
    }

    /** Rows of bytes, shorts, ints. */
    private static final class Sheets {
        private static final int SHEETS = 4, MOST_CELLS = 60, NOTHING = -1;

        private final int[][] rows = new int[SHEETS][MOST_CELLS];
        private final int[] lanes = new int[SHEETS];
        private final int[] lengths = new int[SHEETS];

        Sheets() {
            Arrays.fill(lengths, NOTHING);
        }

        static boolean isSheet(int k) {
            return k >= 0 && k < SHEETS;
        }

        static boolean isLane(int lane) {
            return lane >= 0 && lane <= 2;
        }

        void begin(int k, int lane, int n) {
            if (isSheet(k) && n >= 0 && n <= MOST_CELLS) {
                Arrays.fill(rows[k], 0);
                lanes[k] = lane;
                lengths[k] = n;
            }
        }

        int drop(int k) {
            if (!isSheet(k) || lengths[k] == NOTHING) {
                return 0;
            }
            lengths[k] = NOTHING;
            return 1;
        }

        boolean isOtherLane(int k, int lane) {
            return isSheet(k) && lengths[k] != NOTHING && lanes[k] != lane;
        }

        int faultOfCell(int k, int i) {
            if (!isSheet(k) || lengths[k] == NOTHING) {
                return NULL_FAULT;
            }
            return i < 0 || i >= lengths[k] ? INDEX_FAULT : NO_FAULT;
        }

        int faultOfCells(int k, int lane, int i, int n) {
            if (isOtherLane(k, lane)) {
                return CAST_FAULT;
            }
            if (!isSheet(k) || lengths[k] == NOTHING) {
                return NULL_FAULT;
            }
            if (n < 0) {
                return SIZE_FAULT;
            }
            return i < 0 || i > lengths[k] || n > lengths[k] - i ? INDEX_FAULT : NO_FAULT;
        }

        void write(int k, int i, int v) {
            if (faultOfCell(k, i) == NO_FAULT) {
                rows[k][i] = cutToLane(lanes[k], v);
            }
        }

        private static int cutToLane(int lane, int v) {
            switch (lane) {
                case 0:
                    return (byte) v;
                case 1:
                    return (short) v;
                default:
                    return v;
            }
        }

        int number(int k, int i) {
            return faultOfCell(k, i) == NO_FAULT ? rows[k][i] : 0;
        }
    }
}

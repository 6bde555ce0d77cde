import java.math.BigInteger;
import java.util.ArrayList;
import java.util.Arrays;
import java.util.List;
import java.util.Objects;
import java.util.regex.Matcher;
import java.util.regex.Pattern;

/**
 * The document once more, by other ways than the class's and as slow as they come: real rows with
 * real casts, exact shares, trials of all rows, sets and orders. It has the face's methods by name.
 */
final class Model {
    private static final int UNKNOWN = -1, OUTSIDE = -2, STATE = -3, FULL = -4, NONE = -9;
    private static final long LOST = Long.MIN_VALUE;

    private final List<int[]> panels = new ArrayList<>();
    private int[] springs = {1};
    private final List<int[]> joints = new ArrayList<>();
    private final List<int[]> bars = new ArrayList<>();
    private final int[][][] loads = new int[6][8][2];
    private final boolean[][] gaps = new boolean[10][10];
    private final List<int[]> sights = new ArrayList<>();
    private final Object[] sheets = new Object[4];
    private int trace;
    private int fault;

    // ---- the machine's faults, as the machine itself makes them

    private interface Deed {
        long go();
    }

    private long daring(Deed deed, boolean isLong) {
        fault = 0;
        try {
            return deed.go();
        } catch (NullPointerException e) {
            fault = 1;
        } catch (ClassCastException e) {
            fault = 2;
        } catch (IndexOutOfBoundsException e) {
            fault = 3;
        } catch (NegativeArraySizeException e) {
            fault = 4;
        }
        return isLong ? LOST : -10 - fault;
    }

    private static long cellOf(Object row, int lane, int i) {
        switch (lane) {
            case 0:
                return ((byte[]) row)[i];
            case 1:
                return ((short[]) row)[i];
            default:
                return ((int[]) row)[i];
        }
    }

    private static int lengthOf(Object row, int lane) {
        switch (lane) {
            case 0:
                return ((byte[]) row).length;
            case 1:
                return ((short[]) row).length;
            default:
                return ((int[]) row).length;
        }
    }

    private static int[] cellsOf(Object row, int lane, int i, int n) {
        int there = lengthOf(row, lane);
        // Cut down, as so long a row would not fit; it is not there anyway.
        int[] cells = new int[Math.min(n, 1000)];
        Objects.checkFromIndexSize(i, n, there);
        for (int k = 0; k < n; k++) {
            cells[k] = (int) cellOf(row, lane, i + k);
        }
        return cells;
    }

    // ---- 1 the dome

    int text(int sheet, int lane, int i, int n) {
        fault = 0;
        if (sheet < 0 || sheet > 3) {
            return UNKNOWN;
        }
        if (lane < 0 || lane > 2) {
            return OUTSIDE;
        }
        return (int) daring(() -> becomes(cellsOf(sheets[sheet], lane, i, n)), false);
    }

    private int becomes(int[] codes) {
        StringBuilder text = new StringBuilder();
        for (int code : codes) {
            text.append(code > 32 && code < 127 ? (char) code : '?');
        }
        String rest = text.toString();
        List<int[]> found = new ArrayList<>();
        // States: 0 r, 1 OUT, 2 comma, 3 DOWN, 4 w or ; or end, 5 WEIGHT, 6 ; or end.
        int state = 0;
        int[] item = new int[3];
        int at = 0;
        while (true) {
            boolean ends = at == rest.length();
            if (ends && (state == 4 || state == 6)) {
                found.add(item);
                panels.clear();
                panels.addAll(found);
                return panels.size();
            }
            if (ends) {
                return -100 - at;
            }
            char sign = rest.charAt(at);
            if (state == 1 || state == 3 || state == 5) {
                Matcher digits = Pattern.compile("[0-9]{1,3}").matcher(rest).region(at, rest.length());
                int number = digits.lookingAt() ? Integer.parseInt(digits.group()) : -1;
                if (number < (state == 3 ? 1 : 0) || number > (state == 5 ? 999 : 99)) {
                    return -100 - at;
                }
                item[state / 2] = number;
                at = digits.end();
                state++;
            } else if (state == 0 && sign == 'r' || state == 2 && sign == ',' || state == 4 && sign == 'w') {
                at++;
                state++;
            } else if (state >= 4 && sign == ';' && found.size() < 7) {
                found.add(item);
                item = new int[3];
                at++;
                state = 0;
            } else {
                return -100 - at;
            }
        }
    }

    private boolean noPanel(int p) {
        return p < 0 || p >= panels.size();
    }

    private long weightTo(int p) {
        return panels.stream().limit(p + 1).mapToLong(row -> row[2]).sum();
    }

    private static BigInteger square(long n) {
        return BigInteger.valueOf(n).pow(2);
    }

    private int pushOf(int p) {
        int[] row = panels.get(p);
        BigInteger bound = square(weightTo(p)).multiply(square(row[0]).add(square(row[1])));
        long push = (long) (weightTo(p) * Math.hypot(row[0], row[1]) / row[1]) + 3;
        while (square(push).multiply(square(row[1])).compareTo(bound) > 0) {
            push--;
        }
        return (int) push;
    }

    private int lengthOf(int p) {
        int[] row = panels.get(p);
        int length = 0;
        while ((length + 1) * (length + 1) <= row[0] * row[0] + row[1] * row[1]) {
            length++;
        }
        return length;
    }

    int panel(int p, int what) {
        if (noPanel(p)) {
            return UNKNOWN;
        }
        if (what < 0 || what > 5) {
            return OUTSIDE;
        }
        return what < 3 ? panels.get(p)[what] : what == 3 ? (int) weightTo(p) : what == 4 ? pushOf(p) : lengthOf(p);
    }

    private Share thrustOf(int p) {
        return Share.of(weightTo(p) * panels.get(p)[0], panels.get(p)[1]);
    }

    long thrust(int p, int which) {
        return noPanel(p) || which < 0 || which > 1 ? LOST : thrustOf(p).half(which);
    }

    long pull(int p, int which) {
        if (noPanel(p) || which < 0 || which > 1) {
            return LOST;
        }
        return (p + 1 < panels.size() ? thrustOf(p).minus(thrustOf(p + 1)) : thrustOf(p)).half(which);
    }

    int thick(int strength, int p) {
        if (strength < 1 || strength > 9999) {
            return OUTSIDE;
        }
        if (panels.isEmpty() || p < -1 || p >= panels.size()) {
            return UNKNOWN;
        }
        int[] row = new int[panels.size()];
        int[] best = new int[panels.size() + 1];
        best[panels.size()] = Integer.MAX_VALUE;
        int[] least = new int[panels.size()];
        int[] lengths = new int[panels.size()];
        for (int k = 0; k < row.length; k++) {
            least[k] = pushOf(k);
            lengths[k] = lengthOf(k);
        }
        tryRows(row, 0, strength, new int[][] {least, lengths}, best);
        if (best[panels.size()] == Integer.MAX_VALUE) {
            return NONE;
        }
        return p < 0 ? best[panels.size()] : best[p];
    }

    private void tryRows(int[] row, int k, int strength, int[][] told, int[] best) {
        if (k == row.length) {
            int sum = 0;
            for (int i = 0; i < k; i++) {
                sum += row[i] * told[1][i];
            }
            if (sum < best[k]) {
                System.arraycopy(row, 0, best, 0, k);
                best[k] = sum;
            }
            return;
        }
        for (int t = 1; t <= 5; t++) {
            if (t * strength >= told[0][k] && (k == 0 || Math.abs(t - row[k - 1]) <= 1)) {
                row[k] = t;
                tryRows(row, k + 1, strength, told, best);
            }
        }
    }

    // ---- 2 the rib

    int rib(int links) {
        if (links < 2 || links > 5) {
            return OUTSIDE;
        }
        springs = new int[links - 1];
        Arrays.fill(springs, 1);
        return springs.length;
    }

    int spring(int j, int k) {
        if (j < 1 || j > springs.length) {
            return UNKNOWN;
        }
        if (k < 1 || k > 20) {
            return OUTSIDE;
        }
        int was = springs[j - 1];
        springs[j - 1] = k;
        return was;
    }

    private long sumOf(long[] y, boolean bending) {
        long sum = 0;
        for (int j = 1; j < y.length; j++) {
            if (bending && j < y.length - 1) {
                long bend = y[j - 1] - 2 * y[j] + y[j + 1];
                sum += springs[j - 1] * bend * bend;
            } else if (!bending) {
                sum += (y[j] - y[j - 1]) * (y[j] - y[j - 1]);
            }
        }
        return sum;
    }

    /** A table from its sum alone: half of what both ways off give more than each. */
    private long inTable(int row, int column, boolean bending) {
        long[] one = new long[springs.length + 2];
        long[] other = new long[springs.length + 2];
        long[] both = new long[springs.length + 2];
        one[row + 1]++;
        other[column + 1]++;
        both[row + 1]++;
        both[column + 1]++;
        return (sumOf(both, bending) - sumOf(one, bending) - sumOf(other, bending)) / 2;
    }

    /** The sum over all orders of columns, by powers. */
    private long[] determinant(int row, int used, long[] so) {
        int size = springs.length;
        if (row == size) {
            return so;
        }
        long[] sum = new long[size + 1];
        for (int column = 0; column < size; column++) {
            if ((used >> column & 1) == 0) {
                long[] next = new long[size + 1];
                int sign = Integer.bitCount(used >> column) % 2 == 0 ? 1 : -1;
                for (int k = 0; k <= size; k++) {
                    next[k] += sign * so[k] * inTable(row, column, true);
                    if (k < size) {
                        next[k + 1] -= sign * so[k] * inTable(row, column, false);
                    }
                }
                long[] whole = determinant(row + 1, used | 1 << column, next);
                for (int k = 0; k <= size; k++) {
                    sum[k] += whole[k];
                }
            }
        }
        return sum;
    }

    long poly(int k) {
        if (k < 0 || k > springs.length) {
            return LOST;
        }
        long[] one = new long[springs.length + 1];
        one[0] = 1;
        return determinant(0, 0, one)[k];
    }

    private static boolean noShare(int a, int b) {
        return a < 0 || a > 999 || b < 1 || b > 99;
    }

    /** How many numbers below 0 (which -1), of 0 (0) the table K less a by b G has, by squares. */
    private int inertia(int a, int b, int which) {
        int size = springs.length;
        Share[][] table = new Share[size][size];
        for (int r = 0; r < size; r++) {
            for (int c = 0; c < size; c++) {
                table[r][c] = Share.of(inTable(r, c, true)).minus(Share.of(a, b).times(Share.of(inTable(r, c, false))));
            }
        }
        int[] signs = new int[size];
        boolean[] done = new boolean[size];
        for (int step = 0; step < size; step++) {
            int lead = leadOf(table, done);
            if (lead < 0) {
                break;
            }
            signs[lead] = table[lead][lead].sign();
            done[lead] = true;
            for (int r = 0; r < size; r++) {
                for (int c = 0; !done[r] && c < size; c++) {
                    if (!done[c]) {
                        Share less = table[r][lead].times(table[lead][c]).by(table[lead][lead]);
                        table[r][c] = table[r][c].minus(less);
                    }
                }
            }
        }
        return (int) Arrays.stream(signs).filter(sign -> sign == which).count();
    }

    private static int leadOf(Share[][] table, boolean[] done) {
        for (int turn = 0; turn < 2; turn++) {
            for (int k = 0; k < done.length; k++) {
                if (!done[k] && !table[k][k].isZero()) {
                    return k;
                }
            }
            mixRows(table, done);
        }
        return -1;
    }

    /** Where all squares are gone, a row and its column are put to another one's. */
    private static void mixRows(Share[][] table, boolean[] done) {
        for (int r = 0; r < done.length; r++) {
            for (int c = 0; c < done.length; c++) {
                if (!done[r] && !done[c] && r != c && !table[r][c].isZero()) {
                    for (int k = 0; k < done.length; k++) {
                        table[r][k] = table[r][k].plus(table[c][k]);
                    }
                    for (int k = 0; k < done.length; k++) {
                        table[k][r] = table[k][r].plus(table[k][c]);
                    }
                    return;
                }
            }
        }
    }

    int folds(int a, int b) {
        return noShare(a, b) ? OUTSIDE : inertia(a, b, -1);
    }

    int fold(int a, int b) {
        return noShare(a, b) ? OUTSIDE : inertia(a, b, 0);
    }

    int bound(int b) {
        if (noShare(0, b)) {
            return OUTSIDE;
        }
        int a = 0;
        int step = 1;
        while (step > 0) {
            // Up by longer and longer steps, then by shorter ones: folds never become fewer.
            if (a + step <= 999 && inertia(a + step, b, -1) == 0) {
                a += step;
                step *= 2;
            } else {
                step /= 2;
            }
        }
        return a;
    }

    // ---- 3 the net

    int joint(int x, int y, boolean held) {
        if (x < 0 || x > 5 || y < 0 || y > 5) {
            return OUTSIDE;
        }
        if (joints.stream().anyMatch(row -> row[0] == x && row[1] == y)) {
            return STATE;
        }
        if (joints.size() == 8 || !held && many(3) == 4) {
            return FULL;
        }
        joints.add(new int[] {x, y, held ? 1 : 0});
        return joints.size() - 1;
    }

    private boolean noJoint(int j) {
        return j < 0 || j >= joints.size();
    }

    private boolean noBar(int b) {
        return b < 0 || b >= bars.size();
    }

    int bar(int kind, int a, int b, int strength) {
        if (noJoint(a) || noJoint(b)) {
            return UNKNOWN;
        }
        if (a == b || kind < 0 || kind > 2 || strength < 1 || strength > 999) {
            return OUTSIDE;
        }
        if (bars.stream().anyMatch(row -> row[1] == a && row[2] == b || row[1] == b && row[2] == a)) {
            return STATE;
        }
        if (bars.size() == 16) {
            return FULL;
        }
        bars.add(new int[] {kind, a, b, strength, 0});
        return bars.size() - 1;
    }

    int cut(int b, boolean is) {
        if (noBar(b)) {
            return UNKNOWN;
        }
        int was = bars.get(b)[4];
        bars.get(b)[4] = is ? 1 : 0;
        return was == bars.get(b)[4] ? 0 : 1;
    }

    int about(int b, int what) {
        return noBar(b) ? UNKNOWN : what < 0 || what > 4 ? OUTSIDE : bars.get(b)[what];
    }

    int load(int c, int joint, int x, int y) {
        if (c < 0 || c > 5 || noJoint(joint)) {
            return UNKNOWN;
        }
        if (Math.abs((long) x) > 30 || Math.abs((long) y) > 30) {
            return OUTSIDE;
        }
        if (joints.get(joint)[2] == 1) {
            return STATE;
        }
        loads[c][joint] = new int[] {x, y};
        return 1;
    }

    /** The rows of the free joints: a column for each bar (0 if it is cut), and the loads of some cases. */
    private Share[][] rows(int cases, int without) {
        List<Share[]> rows = new ArrayList<>();
        for (int j = 0; j < joints.size(); j++) {
            for (int way = 0; way < 2 && joints.get(j)[2] == 0; way++) {
                Share[] row = new Share[bars.size() + 1];
                for (int b = 0; b < bars.size(); b++) {
                    int[] bar = bars.get(b);
                    int other = bar[1] == j ? bar[2] : bar[2] == j ? bar[1] : j;
                    boolean there = bar[4] == 0 && b != without;
                    row[b] = Share.of(there ? joints.get(other)[way] - joints.get(j)[way] : 0);
                }
                row[bars.size()] = Share.ZERO;
                for (int c = 0; c < 6; c++) {
                    if ((cases >> c & 1) == 1) {
                        row[bars.size()] = row[bars.size()].minus(Share.of(loads[c][j][way]));
                    }
                }
                rows.add(row);
            }
        }
        return rows.toArray(new Share[0][]);
    }

    /** Clears by columns; leads[column] is its row, or -1. */
    private static int[] clear(Share[][] rows, int columns) {
        int[] leads = new int[columns];
        Arrays.fill(leads, -1);
        int rank = 0;
        for (int column = 0; column < columns; column++) {
            int row = rank;
            while (row < rows.length && rows[row][column].isZero()) {
                row++;
            }
            if (row == rows.length) {
                continue;
            }
            Share[] line = rows[row];
            rows[row] = rows[rank];
            rows[rank] = line;
            Share lead = line[column];
            for (int k = 0; k < line.length; k++) {
                line[k] = line[k].by(lead);
            }
            for (int r = 0; r < rows.length; r++) {
                Share times = rows[r][column];
                for (int k = 0; r != rank && k < line.length; k++) {
                    rows[r][k] = rows[r][k].minus(times.times(line[k]));
                }
            }
            leads[column] = rank++;
        }
        return leads;
    }

    private static int count(int[] leads) {
        return (int) Arrays.stream(leads).filter(row -> row >= 0).count();
    }

    private int rank() {
        return count(clear(rows(0, -1), bars.size()));
    }

    int net(int what) {
        switch (what) {
            case 0:
                return rank();
            case 1:
                return 2 * many(3) - rank();
            case 2:
                return many(4) - many(5) - rank();
            default:
                return OUTSIDE;
        }
    }

    long move(int joint, int way) {
        if (noJoint(joint) || way < 0 || way > 1 || joints.get(joint)[2] == 1 || net(1) != 1) {
            return LOST;
        }
        int ways = 2 * joints.size();
        List<Share[]> rows = new ArrayList<>();
        for (int[] bar : bars) {
            Share[] row = new Share[ways];
            Arrays.fill(row, Share.ZERO);
            for (int k = 0; k < 2 && bar[4] == 0; k++) {
                int along = joints.get(bar[1])[k] - joints.get(bar[2])[k];
                row[2 * bar[1] + k] = Share.of(along);
                row[2 * bar[2] + k] = Share.of(-along);
            }
            rows.add(row);
        }
        for (int k = 0; k < ways; k++) {
            if (joints.get(k / 2)[2] == 1) {
                Share[] row = new Share[ways];
                Arrays.fill(row, Share.ZERO);
                row[k] = Share.ONE;
                rows.add(row);
            }
        }
        Share[][] table = rows.toArray(new Share[0][]);
        int[] leads = clear(table, ways);
        int open = 0;
        while (leads[open] >= 0) {
            open++;
        }
        Share[] move = new Share[ways];
        BigInteger lowers = BigInteger.ONE;
        for (int k = 0; k < ways; k++) {
            move[k] = k == open ? Share.ONE : leads[k] < 0 ? Share.ZERO : Share.ZERO.minus(table[leads[k]][open]);
            lowers = lowers.multiply(move[k].lower);
        }
        BigInteger divisor = BigInteger.ZERO;
        int sign = 0;
        BigInteger[] whole = new BigInteger[ways];
        for (int k = 0; k < ways; k++) {
            whole[k] = move[k].upper.multiply(lowers.divide(move[k].lower));
            divisor = divisor.gcd(whole[k]);
            sign = sign == 0 ? whole[k].signum() : sign;
        }
        return whole[2 * joint + way].divide(divisor).longValueExact() * sign;
    }

    private boolean standsWithout(int cases, int without) {
        return count(clear(rows(cases, without), bars.size())) == count(clear(rows(cases, without), bars.size() + 1));
    }

    int stands(int c) {
        return c < 0 || c > 5 ? UNKNOWN : standsWithout(1 << c, -1) ? 1 : 0;
    }

    private Share[] pushes(int cases) {
        Share[][] rows = rows(cases, -1);
        int[] leads = clear(rows, bars.size());
        Share[] pushes = new Share[bars.size()];
        for (int b = 0; b < pushes.length; b++) {
            pushes[b] = leads[b] < 0 ? Share.ZERO : rows[leads[b]][bars.size()];
        }
        return pushes;
    }

    private boolean isTold(int c) {
        return stands(c) == 1 && net(2) == 0;
    }

    long push(int c, int b, int which) {
        if (c < 0 || c > 5 || noBar(b) || which < 0 || which > 1 || !isTold(c)) {
            return LOST;
        }
        return pushes(1 << c)[b].half(which);
    }

    long limit(int c, int what) {
        if (c < 0 || c > 5 || what < 0 || what > 2 || !isTold(c)) {
            return LOST;
        }
        Share[] pushes = pushes(1 << c);
        Share least = null;
        int first = NONE;
        for (int b = 0; b < pushes.length; b++) {
            if (!pushes[b].isZero()) {
                Share share = Share.of(bars.get(b)[3]).by(pushes[b].size());
                if (least == null || share.compareTo(least) < 0) {
                    least = share;
                    first = b;
                }
            }
        }
        return what == 2 || least == null ? first : least.half(what);
    }

    int needs(int c) {
        if (c < 0 || c > 5) {
            return UNKNOWN;
        }
        if (stands(c) == 0) {
            return STATE;
        }
        int set = 0;
        for (int b = 0; b < bars.size(); b++) {
            set |= standsWithout(1 << c, b) ? 0 : 1 << b;
        }
        return set;
    }

    int order(int set, int i) {
        if (set < 1 || set > 63) {
            return OUTSIDE;
        }
        if (i < 0 || i >= Integer.bitCount(set)) {
            return UNKNOWN;
        }
        for (int c = 0; c < 6; c++) {
            if ((set >> c & 1) == 1 && !isTold(c)) {
                return STATE;
            }
        }
        Boolean[] gives = new Boolean[64];
        List<Integer> order = firstOrder(set, 0, gives, new ArrayList<>());
        return order == null ? NONE : order.get(i);
    }

    private List<Integer> firstOrder(int set, int on, Boolean[] gives, List<Integer> so) {
        if (on == set) {
            return so;
        }
        for (int c = 0; c < 6; c++) {
            int next = on | 1 << c;
            if ((set >> c & 1) == 1 && next != on && !gives(next, gives)) {
                List<Integer> more = new ArrayList<>(so);
                more.add(c);
                List<Integer> whole = firstOrder(set, next, gives, more);
                if (whole != null) {
                    return whole;
                }
            }
        }
        return null;
    }

    private boolean gives(int on, Boolean[] known) {
        if (known[on] == null) {
            Share[] pushes = pushes(on);
            known[on] = false;
            for (int b = 0; b < pushes.length; b++) {
                known[on] |= pushes[b].size().compareTo(Share.of(bars.get(b)[3])) > 0;
            }
        }
        return known[on];
    }

    // ---- 4 the skin

    int hole(int row, int column, boolean out) {
        if (row < 0 || row > 9 || column < 0 || column > 9) {
            return UNKNOWN;
        }
        int was = gaps[row][column] == out ? 0 : 1;
        gaps[row][column] = out;
        return was;
    }

    /** The least number of each lot, spread until nothing changes. */
    private int[] lots(boolean ofGaps) {
        int[] lot = new int[100];
        for (int k = 0; k < 100; k++) {
            lot[k] = gaps[k / 10][k % 10] == ofGaps ? k : -1;
        }
        boolean changes = true;
        while (changes) {
            changes = false;
            for (int k = 0; k < 10000; k++) {
                int a = k / 100;
                int b = k % 100;
                int rows = Math.abs(a / 10 - b / 10);
                int columns = Math.abs(a % 10 - b % 10);
                boolean near = ofGaps ? Math.max(rows, columns) == 1 : rows + columns == 1;
                if (near && lot[a] >= 0 && lot[b] >= 0 && lot[a] < lot[b]) {
                    lot[b] = lot[a];
                    changes = true;
                }
            }
        }
        return lot;
    }

    private int lotsWithout(boolean ofGaps) {
        int[] lot = lots(ofGaps);
        boolean[] held = new boolean[100];
        boolean[] there = new boolean[100];
        for (int k = 0; k < 100; k++) {
            if (lot[k] >= 0) {
                boolean rim = k < 10 || k >= 90 || k % 10 == 0 || k % 10 == 9;
                there[lot[k]] = true;
                held[lot[k]] |= ofGaps ? rim : k >= 90;
            }
        }
        int count = 0;
        for (int k = 0; k < 100; k++) {
            count += there[k] && !held[k] ? 1 : 0;
        }
        return count;
    }

    private int leaks() {
        int[] lot = lots(true);
        for (int a = 0; a < 100; a += 10) {
            for (int b = 9; b < 100; b += 10) {
                if (lot[a] >= 0 && lot[a] == lot[b]) {
                    return 1;
                }
            }
        }
        return 0;
    }

    private int shortest() {
        int[][] costs = new int[10][10];
        for (int[] row : costs) {
            Arrays.fill(row, 1000);
        }
        boolean changes = true;
        while (changes) {
            changes = false;
            for (int k = 0; k < 100; k++) {
                int r = k / 10;
                int c = k % 10;
                int before = c == 0 ? 0 : 1000;
                for (int other = 0; other < 100; other++) {
                    if (Math.abs(other / 10 - r) <= 1 && Math.abs(other % 10 - c) <= 1) {
                        before = Math.min(before, costs[other / 10][other % 10]);
                    }
                }
                int cost = before + (gaps[r][c] ? 0 : 1);
                if (cost < costs[r][c]) {
                    costs[r][c] = cost;
                    changes = true;
                }
            }
        }
        int least = 1000;
        for (int[] row : costs) {
            least = Math.min(least, row[9]);
        }
        return least;
    }

    int skin(int what) {
        switch (what) {
            case 0:
                int there = 0;
                for (int k = 0; k < 100; k++) {
                    there += gaps[k / 10][k % 10] ? 0 : 1;
                }
                return there;
            case 1:
                return lotsWithout(false);
            case 2:
                return lotsWithout(true);
            case 3:
                return leaks();
            case 4:
                return shortest();
            default:
                return OUTSIDE;
        }
    }

    // ---- 5 sights

    int sight(int m, int lo, int hi) {
        if (m < 1 || m > 99 || lo < 0 || lo > 99999 || hi < 0 || hi > 99999 || hi < lo) {
            return OUTSIDE;
        }
        if (sights.size() == 12) {
            return FULL;
        }
        sights.add(new int[] {m, lo, hi});
        return sights.size() - 1;
    }

    private Share endOf(int set, int end) {
        Share best = null;
        for (int k = 0; k < sights.size(); k++) {
            if ((set >> k & 1) == 1) {
                Share one = Share.of(sights.get(k)[1 + end], sights.get(k)[0]);
                int more = best == null ? 0 : one.compareTo(best);
                best = best == null || (end == 0 ? more > 0 : more < 0) ? one : best;
            }
        }
        return best;
    }

    private boolean agree(int set) {
        return set == 0 || endOf(set, 0).compareTo(endOf(set, 1)) <= 0;
    }

    int quarrel(int a, int b) {
        if (a < 0 || b < 0 || a >= sights.size() || b >= sights.size()) {
            return UNKNOWN;
        }
        return agree(1 << a | 1 << b) ? 0 : 1;
    }

    int most() {
        int best = 0;
        for (int set = 1; set < 1 << sights.size(); set++) {
            if (Integer.bitCount(set) > Integer.bitCount(best) && agree(set)) {
                best = set;
            }
        }
        return best;
    }

    long span(int set, int end, int which) {
        if (set < 1 || set >= 1 << sights.size() || end < 0 || end > 1 || which < 0 || which > 1 || !agree(set)) {
            return LOST;
        }
        return endOf(set, end).half(which);
    }

    // ---- 6 sheets, parts

    int sheet(int k, int lane, int n) {
        fault = 0;
        if (k < 0 || k > 3) {
            return UNKNOWN;
        }
        if (lane < 0 || lane > 2 || n > 60) {
            return OUTSIDE;
        }
        return (int) daring(() -> {
            sheets[k] = lane == 0 ? new byte[n] : lane == 1 ? new short[n] : new int[n];
            return 1;
        }, false);
    }

    int lose(int k) {
        if (k < 0 || k > 3) {
            return UNKNOWN;
        }
        int had = sheets[k] == null ? 0 : 1;
        sheets[k] = null;
        return had;
    }

    int put(int k, int i, int v) {
        fault = 0;
        if (k < 0 || k > 3) {
            return UNKNOWN;
        }
        return (int) daring(() -> {
            if (sheets[k] instanceof byte[]) {
                ((byte[]) sheets[k])[i] = (byte) v;
            } else if (sheets[k] instanceof short[]) {
                ((short[]) sheets[k])[i] = (short) v;
            } else {
                ((int[]) sheets[k])[i] = v;
            }
            return 1;
        }, false);
    }

    long cell(int k, int i, int lane) {
        fault = 0;
        if (k < 0 || k > 3 || lane < 0 || lane > 2) {
            return LOST;
        }
        return daring(() -> cellOf(sheets[k], lane, i), true);
    }

    private void leave(int number) {
        trace = trace * 31 + number;
    }

    private int tellAs(int kind, int[] bar) {
        leave(kind + 1);
        int sum = kind == 0 ? bar[3] : tellAs(kind - 1, bar);
        return sum + (kind == 1 ? 1000 * bar[4] : kind == 2 ? tellAs(0, bar) : 0);
    }

    int tell(int b) {
        return noBar(b) ? UNKNOWN : tellAs(bars.get(b)[0], bars.get(b));
    }

    int sign(int b) {
        if (noBar(b)) {
            return UNKNOWN;
        }
        boolean bent = bars.get(b)[0] == 2;
        leave(bent ? 5 : 4);
        return bent ? 70 : b;
    }

    int as(int b, int kind) {
        fault = 0;
        if (noBar(b)) {
            return UNKNOWN;
        }
        if (kind < 0 || kind > 2) {
            return OUTSIDE;
        }
        fault = bars.get(b)[0] < kind ? 2 : 0;
        return fault == 0 ? 1 : -12;
    }

    int trace() {
        return trace;
    }

    int fault() {
        return fault;
    }

    int many(int what) {
        switch (what) {
            case 0:
                return panels.size();
            case 1:
                return springs.length + 1;
            case 2:
                return joints.size();
            case 3:
                return (int) joints.stream().filter(row -> row[2] == 0).count();
            case 4:
                return bars.size();
            case 5:
                return (int) bars.stream().filter(row -> row[4] == 1).count();
            case 6:
                return sights.size();
            default:
                return OUTSIDE;
        }
    }
}

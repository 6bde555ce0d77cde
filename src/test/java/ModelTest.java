import java.lang.reflect.Method;
import java.util.ArrayList;
import java.util.Arrays;
import java.util.List;
import java.util.Random;

/** All promises: long runs of calls, each answered by the class and by the model. Seeds are fixed. */
public final class ModelTest {
    private static final int CALLS = 512;
    private static final Due due = new Due("ModelTest");
    private static final String[] DOME = {"panel", "panel", "thrust", "pull", "thick", "thick", "many"};
    private static final String[] RIB = {"rib", "spring", "spring", "poly", "poly", "folds", "fold", "bound"};
    private static final String[] BUILD = {"joint", "bar", "bar", "load", "cut"};
    private static final String[] NET = {"load", "load", "cut", "net", "move", "move", "move", "stands", "push", "push",
        "push", "limit", "limit", "needs", "order", "order", "order", "about", "many"};
    private static final String[] FIRM = {"load", "net", "stands", "push", "push", "push", "limit", "limit", "needs",
        "order", "order", "order", "move"};
    private static final String[] SKIN = {"hole", "hole", "hole", "hole", "skin"};
    private static final String[] SIGHTS = {"sight", "quarrel", "most", "span", "span"};
    private static final String[] PARTS = {"sheet", "lose", "put", "put", "cell", "cell", "cell", "tell", "sign", "as",
        "trace", "fault", "fault", "text", "many"};
    private static final String[] ALL = {"text", "panel", "thrust", "pull", "thick", "rib", "spring", "poly", "folds",
        "fold", "bound", "joint", "bar", "cut", "about", "load", "net", "move", "stands", "push", "limit", "needs",
        "order", "hole", "skin", "sight", "quarrel", "most", "span", "sheet", "lose", "put", "cell", "tell", "sign",
        "as", "trace", "fault", "many"};

    private final Random random;
    private final SkinLoads real = new SkinLoads();
    private final Model model = new Model();
    private final List<String> said = new ArrayList<>();
    private final int density;
    private int calls;

    private ModelTest(long seed) {
        random = new Random(seed);
        density = 1 + (int) (seed % 9);
    }

    public static void main(String[] args) throws Exception {
        int runs = args.length > 0 ? Integer.parseInt(args[0]) : 15;
        for (int seed = 0; seed < runs; seed++) {
            new ModelTest(seed).domes();
            new ModelTest(seed).mixed(RIB);
            for (int style = 0; style < 6; style++) {
                new ModelTest(10L * seed + style).nets(style);
            }
            new ModelTest(seed).firmNets();
            new ModelTest(seed + 1000L).firmNets();
            new ModelTest(seed).mixed(SKIN);
            new ModelTest(seed).mixed(SIGHTS);
            new ModelTest(seed).sheets();
            new ModelTest(seed).mixed(ALL);
        }
        due.end();
    }

    private long ask(String name, Object... arguments) throws Exception {
        calls++;
        Class<?>[] types = new Class<?>[arguments.length];
        for (int k = 0; k < types.length; k++) {
            types[k] = arguments[k] instanceof Boolean ? boolean.class : int.class;
        }
        String call = name + Arrays.toString(arguments);
        said.add(call);
        Method asked = SkinLoads.class.getMethod(name, types);
        Method modelled = Model.class.getDeclaredMethod(name, types);
        long got = ((Number) asked.invoke(real, arguments)).longValue();
        long want = ((Number) modelled.invoke(model, arguments)).longValue();
        if (got != want) {
            System.out.println(said);
        }
        due.is(call, got, want);
        return got;
    }

    private int from(int low, int high) {
        return low + random.nextInt(high - low + 1);
    }

    /** Mostly within, at times just beyond, seldom far off. */
    private int about(int low, int high) {
        int kind = random.nextInt(60);
        if (kind == 0) {
            int[] far = {Integer.MIN_VALUE, Integer.MAX_VALUE, -1, high + 2, low - 2, 1000000, -1000000};
            return far[random.nextInt(far.length)];
        }
        return kind == 1 ? low - 1 : kind == 2 ? high + 1 : from(low, high);
    }

    private boolean coin() {
        return random.nextBoolean();
    }

    private void askOne(String name) throws Exception {
        ask(name, argumentsOf(name));
    }

    private Object[] argumentsOf(String name) {
        switch (name) {
            case "text": return of(about(0, 3), about(0, 2), about(0, 8), about(0, 30));
            case "panel": return of(about(0, 5), about(0, 5));
            case "thrust": case "pull": return of(about(0, 5), about(0, 1));
            case "thick": return of(about(1, coin() ? 9999 : 300), about(-1, 5));
            case "rib": return of(about(2, 5));
            case "spring": return of(about(1, 4), about(1, 20));
            case "poly": return of(about(0, 4));
            case "folds": case "fold": return shareArguments();
            case "bound": return of(about(1, 99));
            case "joint": return of(about(0, 5), about(0, 5), coin());
            case "bar": return of(about(0, 2), about(0, 7), about(0, 7), about(1, coin() ? 999 : 30));
            case "cut": return of(about(0, 10), random.nextInt(3) == 0);
            case "about": return of(about(0, 12), about(0, 4));
            case "load": return of(about(0, 5), about(0, 7), about(-30, 30), about(-30, 30));
            case "net": return of(about(0, 2));
            case "move": return of(about(0, 7), about(0, 1));
            case "stands": case "needs": return of(about(0, 5));
            case "push": return of(about(0, 5), about(0, 8), about(0, 1));
            case "limit": return of(about(0, 5), about(0, 2));
            case "order": return of(about(1, 63), about(0, 3));
            case "hole": return of(about(0, 9), about(0, 9), random.nextInt(10) < density);
            case "skin": return of(about(0, 4));
            case "sight": return sightArguments();
            case "quarrel": return of(about(0, 11), about(0, 11));
            case "span": return of(about(1, coin() ? 4095 : 15), about(0, 1), about(0, 1));
            case "sheet": return of(about(0, 3), about(0, 2), about(0, coin() ? 60 : 5));
            case "lose": return of(about(0, 3));
            case "put": return of(about(0, 3), about(0, coin() ? 5 : 60), coin() ? from(-300, 300) : random.nextInt());
            case "cell": return of(about(0, 3), about(0, coin() ? 5 : 60), about(0, 2));
            case "tell": case "sign": return of(about(0, 10));
            case "as": return of(about(0, 10), about(0, 2));
            case "many": return of(about(0, 6));
            default: return of();
        }
    }

    private static Object[] of(Object... arguments) {
        return arguments;
    }

    private Object[] sightArguments() {
        int m = about(1, coin() ? 99 : 6);
        int lo = about(0, coin() ? 99999 : 60);
        return of(m, lo, lo + about(0, coin() ? 30 : 3000));
    }

    /** At times a whole share, as folds of like springs are. */
    private Object[] shareArguments() {
        int b = about(1, coin() ? 99 : 4);
        boolean whole = random.nextInt(3) == 0 && b > 0 && b < 10;
        return of(whole ? b * from(1, 40) : about(0, coin() ? 999 : 60), b);
    }

    private void mixed(String[] names) throws Exception {
        while (calls < CALLS) {
            askOne(names[random.nextInt(names.length)]);
        }
    }

    // ---- domes: texts that are right, and right ones with one sign changed, put in, left out

    private String number(int most) {
        String digits = Integer.toString(from(random.nextInt(40) == 0 ? 0 : 1, most));
        return random.nextInt(6) == 0 && digits.length() < 3 ? "0" + digits : digits;
    }

    private String domeText() {
        StringBuilder text = new StringBuilder();
        int items = from(1, random.nextInt(5) == 0 ? 9 : 6);
        for (int k = 0; k < items && text.length() < 45; k++) {
            text.append(k == 0 ? "r" : ";r").append(number(coin() ? 9 : 99)).append(',').append(number(coin() ? 9 : 99));
            if (coin()) {
                text.append('w').append(number(coin() ? 9 : 999));
            }
        }
        if (random.nextInt(3) == 0) {
            int place = random.nextInt(text.length());
            char sign = "r,w;0123456789x ".charAt(random.nextInt(16));
            switch (random.nextInt(4)) {
                case 0:
                    text.setCharAt(place, sign);
                    break;
                case 1:
                    text.insert(place, sign);
                    break;
                case 2:
                    text.deleteCharAt(place);
                    break;
                default:
                    text.setLength(place);
                    break;
            }
        }
        return text.toString();
    }

    private void domes() throws Exception {
        while (calls < CALLS - 100) {
            String text = domeText();
            int lane = from(0, 2);
            int start = random.nextInt(4) == 0 ? from(0, 3) : 0;
            ask("sheet", 0, lane, Math.min(60, start + text.length()));
            for (int i = 0; i < text.length(); i++) {
                ask("put", 0, start + i, (int) text.charAt(i));
            }
            ask("text", 0, random.nextInt(30) == 0 ? from(0, 2) : lane, start, text.length());
            ask("fault");
            for (int k = 0; k < 25; k++) {
                askOne(DOME[random.nextInt(DOME.length)]);
            }
        }
        while (calls < CALLS) {
            askOne(DOME[random.nextInt(DOME.length)]);
        }
    }

    // ---- nets

    private void nets(int style) throws Exception {
        int free = from(1, 4);
        int held = from(1, 4);
        List<Integer> frees = new ArrayList<>();
        while (frees.size() < free && calls < 60) {
            boolean isFree = coin() || held <= 0;
            long made = ask("joint", from(0, 5), from(0, 5), !isFree);
            held -= made >= 0 && !isFree ? 1 : 0;
            if (made >= 0 && isFree) {
                frees.add((int) made);
            }
        }
        while (held-- > 0) {
            ask("joint", from(0, 5), from(0, 5), true);
        }
        int joints = (int) ask("many", 2);
        int wanted = style == 0 ? 2 * free : style == 1 ? 2 * free - 1 : style == 2 ? 16 : from(0, 2 * free + 1);
        int strength = style % 2 == 0 ? 40 : 999;
        for (int k = 0; k < 80 && wanted > 0; k++) {
            int one = style < 2 ? frees.get(random.nextInt(frees.size())) : from(0, joints - 1);
            wanted -= ask("bar", from(0, 2), one, from(0, joints - 1), from(1, strength)) >= 0 ? 1 : 0;
        }
        int size = style == 3 ? 30 : 8;
        for (int c = 0; c < 6; c++) {
            for (int joint : frees) {
                if (coin()) {
                    ask("load", c, joint, from(-size, size), from(-size, size));
                }
            }
        }
        while (calls < CALLS) {
            String[] names = style == 5 && random.nextInt(8) == 0 ? BUILD : NET;
            askOne(names[random.nextInt(names.length)]);
        }
    }

    /** Each free joint hangs on two earlier ones, so that most cases stand and none is loose. */
    private void firmNets() throws Exception {
        ask("joint", from(0, 2), from(0, 2), true);
        ask("joint", from(3, 5), from(0, 5), true);
        int strength = coin() ? 12 : 60;
        List<Integer> frees = new ArrayList<>();
        for (int k = 0; k < 20 && frees.size() < 4; k++) {
            long made = ask("joint", from(0, 5), from(0, 5), false);
            if (made >= 0) {
                frees.add((int) made);
                int one = from(0, (int) made - 1);
                ask("bar", from(0, 2), (int) made, one, from(1, strength));
                int other = (one + from(1, (int) made - 1)) % (int) made;
                ask("bar", from(0, 2), other, (int) made, from(1, strength));
            }
        }
        int size = from(1, 30);
        for (int c = 0; c < 6; c++) {
            for (int joint : frees) {
                if (random.nextInt(3) == 0) {
                    ask("load", c, joint, from(-size, size), from(-size, size));
                }
            }
        }
        while (calls < CALLS) {
            int turn = random.nextInt(40);
            if (turn == 0) {
                int b = from(0, 7);
                ask("cut", b, true);
                ask("needs", from(0, 5));
                ask("move", from(2, 5), from(0, 1));
                ask("push", from(0, 5), b, from(0, 1));
                ask("cut", b, false);
            } else {
                askOne(FIRM[random.nextInt(FIRM.length)]);
            }
        }
    }

    // ---- sheets and parts, with a few bars to tell of

    private void sheets() throws Exception {
        for (int k = 0; k < 8; k++) {
            ask("joint", k % 6, from(0, 5), true);
        }
        for (int k = 0; k < 30; k++) {
            askOne("bar");
        }
        while (calls < CALLS) {
            askOne(random.nextInt(10) == 0 ? "cut" : PARTS[random.nextInt(PARTS.length)]);
        }
    }
}

/**
 * Long random runs of calls on new objects, 512 each as the document allows, with arguments inside and outside their
 * ranges: every answer must be the model's. Then any arguments at all, in frames of every sort.
 * java ModelTest 500 1000 tries 500 runs from number 1000 on.
 */
public final class ModelTest {
    private static final int CALLS = 512;
    /** For each method its arguments: what they mean tells from where they are drawn. */
    private static final String[] MEANINGS = {"XXK", "NK", "NNS", "B", "BS", "CNLL", "N8", "B4", "6", "I", "IE1", "IF3",
        "F", "FD1", "FD", "ZZQ", "FDE3", "FD", "FD1", "FB", "F", "D", "D"};
    /** How often each method is called; changes are rarer than questions. */
    private static final int[] SHARES = {1, 3, 4, 1, 5, 9, 3, 3, 6, 6, 9, 9, 6, 9, 6, 8, 12, 6, 6, 8, 5, 1, 1};
    private static final int[] EXTREMES = {Integer.MIN_VALUE, Integer.MIN_VALUE + 1, -100, -2, -1, 0, 1, 2, 3, 4, 6, 7,
        12, 13, 100, 1 << 30, Integer.MAX_VALUE - 1, Integer.MAX_VALUE};
    /** What limits(1) answers in the frames of each sort. */
    private static final int[] SORTS = {1, FrameCollapse.STATE, 0, 1, 2, 0};

    private final String name;
    private final RandomFrames random;
    private final FrameCollapse program = new FrameCollapse();
    private final Model model = new Model();
    private int calls;

    private ModelTest(String name, int seed) {
        this.name = name;
        random = new RandomFrames(seed);
    }

    public static void main(String[] args) {
        int first = args.length > 1 ? Integer.parseInt(args[1]) : 0;
        int runs = args.length > 0 ? Integer.parseInt(args[0]) : 40;
        for (int seed = first; seed < first + runs; seed++) {
            new ModelTest("run " + seed, seed).run(seed);
        }
        for (int sort = 0; sort < 6; sort++) {
            anyArguments(sort);
        }
        Check.end("ModelTest");
    }

    private long send(int method, int... a) {
        calls++;
        long due = Calls.send(model, method, a);
        Check.due(name + " call " + calls + " " + Calls.text(method, a), Calls.send(program, method, a), due);
        return due;
    }

    private long send(String method, int... a) {
        return send(Calls.named(method), a);
    }

    // ---- runs

    private void run(int seed) {
        if (seed % 8 != 0) {
            build();
        }
        while (calls < CALLS) {
            if (model.count(2) == 1 && model.count(0) > 0 && random.next(3) == 0) {
                // most answers are of interest only when the frame is not loose
                send("hold", random.next(model.count(0)), random.between(1, 3));
                continue;
            }
            int method = chosenMethod();
            String meanings = MEANINGS[method];
            int[] a = new int[meanings.length()];
            for (int k = 0; k < a.length; k++) {
                a[k] = argument(meanings.charAt(k));
            }
            send(method, a);
        }
    }

    /** Nodes close together, most of them free, and bars between them. */
    private void build() {
        int left = random.next(6);
        int below = random.next(6);
        int width = random.between(0, 4);
        int height = random.between(width == 0 ? 1 : 0, 4);
        int nodes = random.between(2, 7);
        int held = random.between(1, 3);
        for (int k = 0; k < 25 && model.count(0) < nodes; k++) {
            int kind = model.count(0) < held ? random.between(1, 3) : random.next(8) == 0 ? random.between(1, 3) : 0;
            send("node", left + random.next(width + 1), below + random.next(height + 1), kind);
        }
        for (int k = 0; k < 70 && model.count(1) < 6; k++) {
            send("bar", random.next(model.count(0)), random.next(model.count(0)), random.between(1, 12));
        }
        int steady = random.next(3);
        for (int k = 0; k < 2 * nodes; k++) {
            int c = random.next(3);
            int most = c == 0 ? steady : 5;
            send("load", c, random.next(nodes), random.between(-most, most), random.between(-most, most));
        }
    }

    private int chosenMethod() {
        int all = 0;
        for (int share : SHARES) {
            all += share;
        }
        int left = random.next(all);
        int method = 0;
        while (left >= SHARES[method]) {
            left -= SHARES[method];
            method++;
        }
        return method;
    }

    private int argument(char meaning) {
        int least = "S".indexOf(meaning) >= 0 || meaning == 'F' || meaning == 'Q' ? 1 : 0;
        int greatest = greatestOf(meaning);
        if (meaning == 'L') {
            least = -5;
        } else if (meaning == 'Z') {
            least = -greatest;
        }
        int chance = random.next(100);
        if (chance == 0) {
            return EXTREMES[random.next(EXTREMES.length)];
        }
        if (chance < 5) {
            return random.next(2) == 0 ? least - 1 : greatest + 1;
        }
        if (chance < 10) {
            return random.next(2) == 0 ? least : greatest;
        }
        return random.between(least, Math.max(least, greatest));
    }

    private int greatestOf(char meaning) {
        switch (meaning) {
            case 'X': return random.next(4) == 0 ? 9 : 4;
            case 'K': return 3;
            case 'N': return model.count(0) - 1;
            case 'B': return model.count(1) - 1;
            case 'S': return 12;
            case 'C': return 2;
            case 'L': return 5;
            case 'I': return Math.max(0, model.count(5)) - 1;
            case 'E': return 2 * model.count(1) - 1;
            case 'F': return 2;
            case 'D': return 1;
            case 'Q':
            case 'Z': return random.next(3) == 0 ? 99 : random.between(1, 9);
            default: return meaning - '0';
        }
    }

    // ---- any arguments

    /** Every combination of extreme arguments, on new objects before the 512 calls of one are used up. */
    private static void anyArguments(int sort) {
        ModelTest test = null;
        for (int method = 0; method < Calls.NAMES.length; method++) {
            int number = Calls.ARGUMENTS[method];
            // of all combinations of four only each fifth
            int step = number == 4 ? 5 : 1;
            int combinations = power(EXTREMES.length, number);
            for (int k = 0; k < combinations; k += step) {
                if (test == null || test.calls >= CALLS) {
                    test = new ModelTest("any arguments, frame " + sort, sort);
                    test.buildSort(sort);
                    Check.due("sort of frame " + sort, test.program.limits(1), SORTS[sort]);
                    test.calls++;
                }
                int[] a = new int[number];
                int rest = k;
                for (int i = 0; i < number; i++) {
                    a[i] = EXTREMES[rest % EXTREMES.length];
                    rest /= EXTREMES.length;
                }
                test.send(method, a);
            }
        }
    }

    private static int power(int base, int exponent) {
        int power = 1;
        for (int k = 0; k < exponent; k++) {
            power *= base;
        }
        return power;
    }

    /** Empty; loose; rigid with limit factors; all numbers are factors; none is; full of nodes and bars. */
    private void buildSort(int sort) {
        if (sort == 0) {
            return;
        }
        send("node", 0, 0, sort == 1 ? 0 : 2);
        send("node", 2, 0, 0);
        send("node", 4, 0, 1);
        send("bar", 0, 1, 3);
        send("bar", 1, 2, 4);
        if (sort == 5) {
            send("node", 2, 2, 0);
            send("node", 4, 2, 2);
            send("node", 0, 2, 0);
            send("node", 0, 4, 3);
            send("bar", 1, 3, 5);
            send("bar", 3, 4, 12);
            send("bar", 0, 5, 1);
            send("bar", 5, 6, 1);
            send("load", 2, 6, 2, 2);
        }
        if (sort != 3) {
            send("load", 0, 1, 0, sort == 4 ? 5 : 1);
        }
        if (sort != 3 && sort != 4) {
            send("load", 1, 1, 1, -2);
        }
        if (sort == 4) {
            send("strengthen", 0, 1);
            send("strengthen", 1, 1);
        }
    }
}

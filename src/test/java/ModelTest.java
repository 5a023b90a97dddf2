/** Promises 1 to 12 together: long generated runs of calls, each answer held against the model's. */
public final class ModelTest {
    private static final int RUNS = 3000;
    private static final int CALLS_TO_SHOW_ONE = 257;
    private static final int[] EXTREMES = {Integer.MIN_VALUE, Integer.MIN_VALUE + 1, Integer.MAX_VALUE - 1,
        Integer.MAX_VALUE, -257, -256, -255, -33, -32, -1, 0, 1, 31, 32, 33, 255, 256, 257};

    private static long state;

    // The same numbers on every machine and in every run of the test.
    private static int number(int below) {
        state = state * 6364136223846793005L + 1442695040888963407L;
        return (int) ((state >>> 33) % below);
    }

    private static int bits() {
        int high = number(1 << 16);
        switch (number(4)) {
            case 0:
                return -1;
            case 1:
                return high;
            default:
                return high << 16 | number(1 << 16);
        }
    }

    private static int vector() {
        return number(60) == 0 ? Edges.NOT_VECTORS[number(Edges.NOT_VECTORS.length)] : number(6);
    }

    private static int value(int usual) {
        return number(12) == 0 ? EXTREMES[number(EXTREMES.length)] : number(usual);
    }

    private static int length() {
        return number(2) == 0 ? value(257) : value(40);
    }

    private static Call call() {
        int a = vector();
        int b = vector();
        int kind = number(40) == 0 ? EXTREMES[number(EXTREMES.length)] : number(9);
        switch (number(15)) {
            case 0:
                return Call.make(a, length());
            case 1: case 2: case 3: case 4:
                return Call.put(a, length(), value(33), bits());
            case 5: case 6:
                int k = kind == BitVectorWords.STRETCH ? value(6) : length() * (number(2) == 0 ? 1 : -1);
                return Call.change(a, kind, b, k);
            case 7: case 8:
                return Call.combine(a, kind, b, vector());
            case 9:
                return Call.length(a);
            case 10:
                return Call.get(a, length());
            case 11:
                return Call.count(a, length(), length());
            case 12:
                return Call.place(a, length());
            case 13:
                return Call.findRun(a, length(), value(9));
            default:
                return Call.compare(a, b);
        }
    }

    // Equal operands of combine are rare among free lengths, so each run begins with vectors that fit each other.
    private static void fill(Subject x, Model model) {
        int length = number(4) == 0 ? 128 : number(257);
        for (int v = 0; v < 6; v++) {
            x.make(v, length);
            model.make(v, length);
            for (int index = 0; index + 32 <= length; index += 32) {
                int bits = bits();
                x.put(v, index, 32, bits);
                model.put(v, index, 32, bits);
            }
        }
    }

    public static void main(String[] args) {
        for (int run = 0; run < RUNS; run++) {
            state = run;
            Subject x = new Subject();
            Model model = new Model();
            if (number(3) > 0) {
                fill(x, model);
            }
            while (x.callsLeft() > CALLS_TO_SHOW_ONE) {
                Call call = call();
                Check.due("run " + run + ": " + call, call.on(x), call.on(model));
            }
            int seen = number(6);
            Check.due("run " + run + ": vector " + seen + " at its end", x.show(seen), model.show(seen));
        }
        Check.end();
    }
}

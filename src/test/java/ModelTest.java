/** Promises 1 to 12 together: long generated runs of calls, each answer held against the model's. */
public final class ModelTest {
    private static final int RUNS = 3000;
    private static final int[] EXTREMES = {Integer.MIN_VALUE, Integer.MIN_VALUE + 1, Integer.MAX_VALUE - 1,
        Integer.MAX_VALUE, -257, -256, -255, -33, -32, -1, 0, 1, 31, 32, 33, 255, 256, 257};

    private static long state;

    // The same numbers on every machine and in every run of the test.
    private static int number(int below) {
        state = state * 6364136223846793005L + 1442695040888963407L;
        return (int) ((state >>> 33) % below);
    }

    private static int bits() {
        int high = number(1 << 16);
        switch (number(4)) {
            case 0:
                return -1;
            case 1:
                return high;
            default:
                return high << 16 | number(1 << 16);
        }
    }

    private static int vector() {
        return number(60) == 0 ? Subject.NOT_VECTORS[number(Subject.NOT_VECTORS.length)] : number(6);
    }

    private static int value(int usual) {
        return number(12) == 0 ? EXTREMES[number(EXTREMES.length)] : number(usual);
    }

    private static int length() {
        return number(2) == 0 ? value(257) : value(40);
    }

    private static void step(String run, Subject x, Model model) {
        int a = vector();
        int b = vector();
        int c = vector();
        int kind = number(40) == 0 ? EXTREMES[number(EXTREMES.length)] : number(9);
        switch (number(14)) {
            case 0:
                int made = length();
                Check.due(run + "make " + a + " " + made, x.make(a, made), model.make(a, made));
                break;
            case 1: case 2: case 3: case 4:
                int index = length();
                int n = value(33);
                int bits = bits();
                Check.due(run + "put " + a + " " + index + " " + n + " " + bits,
                    x.put(a, index, n, bits), model.put(a, index, n, bits));
                break;
            case 5: case 6:
                int k = kind == BitVectorWords.STRETCH ? value(6) : length() * (number(2) == 0 ? 1 : -1);
                Check.due(run + "change " + a + " " + kind + " " + b + " " + k,
                    x.change(a, kind, b, k), model.change(a, kind, b, k));
                break;
            case 7: case 8:
                Check.due(run + "combine " + a + " " + kind + " " + b + " " + c,
                    x.combine(a, kind, b, c), model.combine(a, kind, b, c));
                break;
            case 9:
                int at = length();
                Check.due(run + "length " + a, x.length(a), model.length(a));
                Check.due(run + "get " + a + " " + at, x.get(a, at), model.get(a, at));
                break;
            case 10:
                int from = length();
                int to = length();
                Check.due(run + "count " + a + " " + from + " " + to, x.count(a, from, to), model.count(a, from, to));
                break;
            case 11:
                int before = length();
                Check.due(run + "place " + a + " " + before, x.place(a, before), model.place(a, before));
                break;
            case 12:
                int start = length();
                int row = value(9);
                Check.due(run + "findRun " + a + " " + start + " " + row,
                    x.findRun(a, start, row), model.findRun(a, start, row));
                break;
            default:
                Check.due(run + "compare " + a + " " + b, x.compare(a, b), model.compare(a, b));
                break;
        }
    }

    // Equal operands of combine are rare among free lengths, so each run begins with vectors that fit each other.
    private static void fill(Subject x, Model model) {
        int length = number(4) == 0 ? 128 : number(257);
        for (int v = 0; v < 6; v++) {
            x.make(v, length);
            model.make(v, length);
            for (int index = 0; index + 32 <= length; index += 32) {
                int bits = bits();
                x.put(v, index, 32, bits);
                model.put(v, index, 32, bits);
            }
        }
    }

    public static void main(String[] args) {
        for (int run = 0; run < RUNS; run++) {
            state = run;
            Subject x = new Subject();
            Model model = new Model();
            if (number(3) > 0) {
                fill(x, model);
            }
            while (x.callsLeft() > 257 + 1) {
                step("run " + run + ": ", x, model);
            }
            int seen = number(6);
            Check.due("run " + run + ": vector " + seen + " at its end", x.show(seen), model.show(seen));
        }
        Check.end();
    }
}

/** Promise 1. */
public final class NewObjectTest {
    private static void lengthZero() {
        Subject x = new Subject();
        for (int v = 0; v < 6; v++) {
            Check.due("length " + v, x.length(v), 0);
        }
    }

    private static void noElements() {
        for (int v = 0; v < 6; v++) {
            for (int n : Edges.around(0)) {
                answers(Call.get(v, n), 0);
                answers(Call.count(v, Edges.MIN, n), 0);
                answers(Call.place(v, n), BitVectorWords.BAD_INDEX);
                answers(Call.findRun(v, n, 1), BitVectorWords.BAD_INDEX);
                answers(Call.put(v, n, 1, 1), BitVectorWords.BAD_INDEX);
            }
        }
    }

    private static void operationsOnThem() {
        for (int v = 0; v < 6; v++) {
            for (int kind = BitVectorWords.NOT; kind <= BitVectorWords.SCAN_XOR; kind++) {
                int k = kind == BitVectorWords.TAKE ? 3 : 1;
                answers(Call.change(0, kind, v, k), kind == BitVectorWords.TAKE ? 3 : 0);
                answers(Call.change(v, kind, v, k), kind == BitVectorWords.TAKE ? 3 : 0);
            }
            for (int kind = BitVectorWords.AND; kind <= BitVectorWords.MESH; kind++) {
                answers(Call.combine(0, kind, v, 5), 0);
                answers(Call.combine(v, kind, v, v), 0);
            }
            answers(Call.compare(v, 0), 0);
            answers(Call.compare(5, v), 0);
        }
    }

    /** The call is the first one on its object. */
    private static void answers(Call call, int want) {
        Check.due(call + " on a new object", call.on(new Subject()), want);
    }

    private static void eachObjectIsNew() {
        Subject first = new Subject();
        for (int v = 0; v < 6; v++) {
            first.set(v, "101");
        }
        Subject second = new Subject();
        for (int v = 0; v < 6; v++) {
            Check.due("length " + v + " of the second object", second.length(v), 0);
            second.make(v, 256);
            Check.due("length " + v + " of the first object", first.length(v), 3);
        }
    }

    public static void main(String[] args) {
        Check.sentence("All vectors have length 0", NewObjectTest::lengthZero);
        Check.sentence("All vectors have length 0: they have no element", NewObjectTest::noElements);
        Check.sentence("All vectors have length 0: operations on them", NewObjectTest::operationsOnThem);
        Check.sentence("All vectors have length 0, whatever another object has done", NewObjectTest::eachObjectIsNew);
        Check.end();
    }
}

/** Promise 1. */
public final class NewObjectTest {
    private static void lengthZero() {
        Subject x = new Subject();
        for (int v = 0; v < 6; v++) {
            Check.due("length " + v, x.length(v), 0);
        }
    }

    private static void noElements() {
        Scene x = new Scene();
        for (int v = 0; v < 6; v++) {
            for (int n : Edges.around(0)) {
                x.answers(Call.get(v, n), 0);
                x.answers(Call.count(v, Edges.MIN, n), 0);
                x.answers(Call.place(v, n), BitVectorWords.BAD_INDEX);
                x.answers(Call.findRun(v, n, 1), BitVectorWords.BAD_INDEX);
                x.answers(Call.put(v, n, 1, 1), BitVectorWords.BAD_INDEX);
            }
        }
    }

    private static void eachObjectIsNew() {
        Subject first = new Subject();
        for (int v = 0; v < 6; v++) {
            first.set(v, "101");
        }
        Subject second = new Subject();
        for (int v = 0; v < 6; v++) {
            Check.due("length " + v + " of the second object", second.length(v), 0);
            second.make(v, 256);
            Check.due("length " + v + " of the first object", first.length(v), 3);
        }
    }

    public static void main(String[] args) {
        Check.sentence("All vectors have length 0", NewObjectTest::lengthZero);
        Check.sentence("All vectors have length 0: they have no element", NewObjectTest::noElements);
        Check.sentence("All vectors have length 0, whatever another object has done", NewObjectTest::eachObjectIsNew);
        Check.end();
    }
}

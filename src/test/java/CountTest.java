/** Promise 8. */
public final class CountTest {
    private static final int MIN = Edges.MIN;
    private static final int MAX = Edges.MAX;

    private static void counts(Subject x, int vector, int from, int to, int want) {
        Check.due("count " + vector + " " + from + " " + to, x.count(vector, from, to), want);
    }

    private static void howMany() {
        Subject x = Subject.with("", "1011001", Edges.ALL_FALSE, Edges.ALL_TRUE, "0", "1");
        counts(x, 1, 0, 6, 4);
        counts(x, 1, 1, 5, 2);
        counts(x, 2, 0, 255, 0);
        counts(x, 3, 0, 255, 256);
        counts(x, 3, 1, 254, 254);
        counts(x, 4, 0, 0, 0);
        counts(x, 5, 0, 0, 1);
    }

    private static void bothCountedIn() {
        Subject x = Subject.with(Edges.only(0, 256), Edges.only(255, 256), Edges.only(100, 256), "1011001");
        counts(x, 0, 0, 0, 1);
        counts(x, 0, 1, 255, 0);
        counts(x, 1, 255, 255, 1);
        counts(x, 1, 0, 254, 0);
        counts(x, 2, 100, 100, 1);
        counts(x, 2, 100, 255, 1);
        counts(x, 2, 0, 100, 1);
        counts(x, 2, 101, 255, 0);
        counts(x, 2, 0, 99, 0);
        counts(x, 3, 2, 3, 2);
        counts(x, 3, 2, 2, 1);
        counts(x, 3, 1, 1, 0);
    }

    private static void fromAboveTo() {
        Subject x = Subject.with("1111111", Edges.ALL_TRUE);
        counts(x, 0, 4, 2, 0);
        counts(x, 0, 3, 2, 0);
        counts(x, 0, 0, -1, 0);
        counts(x, 0, 7, 6, 0);
        counts(x, 1, 255, 254, 0);
        counts(x, 1, 255, 0, 0);
        counts(x, 1, 256, 255, 0);
        counts(x, 1, MAX, MIN, 0);
        counts(x, 1, 0, MIN, 0);
        counts(x, 1, MAX, 255, 0);
    }

    private static void outOfRangeDoNotCount() {
        for (int length : Edges.LENGTHS) {
            for (int v = 0; v < 6; v++) {
                Subject x = Subject.amongTrue(v, "1".repeat(length));
                counts(x, v, -1, length, length);
                counts(x, v, -1, 256, length);
                counts(x, v, -256, 512, length);
                counts(x, v, -3, -1, 0);
                counts(x, v, -1, 0, Math.min(1, length));
                counts(x, v, length - 1, length, Math.min(1, length));
                counts(x, v, length, length, 0);
                counts(x, v, length, 300, 0);
                counts(x, v, 256, 300, 0);
            }
        }
    }

    private static void anyInts() {
        for (int length : new int[] {0, 1, 33, 256}) {
            Subject x = Subject.amongTrue(1, "1".repeat(length));
            counts(x, 1, MIN, MAX, length);
            counts(x, 1, MIN + 1, MAX - 1, length);
            counts(x, 1, 0, MAX, length);
            counts(x, 1, MIN, length - 1, length);
            counts(x, 1, MIN, 0, Math.min(1, length));
            counts(x, 1, length - 1, MAX, Math.min(1, length));
            counts(x, 1, length, MAX, 0);
            counts(x, 1, MIN, -1, 0);
            counts(x, 1, MIN, MIN, 0);
            counts(x, 1, MAX, MAX, 0);
            counts(x, 1, MAX - 1, MAX, 0);
            counts(x, 1, MIN, MIN + 1, 0);
        }
    }

    private static void cutOffElements() {
        Subject x = Subject.with(Edges.ALL_TRUE);
        x.change(0, BitVectorWords.TAKE, 0, 2);
        counts(x, 0, 0, 255, 2);
        counts(x, 0, 2, 255, 0);
        x.make(0, 0);
        counts(x, 0, MIN, MAX, 0);
    }

    private static void badVector() {
        for (int bad : Edges.NOT_VECTORS) {
            Scene.sixOf("11").answers(Call.count(bad, 0, 1), BitVectorWords.BAD_VECTOR);
            Scene.sixOf("11").answers(Call.count(bad, 1, 0), BitVectorWords.BAD_VECTOR);
            Scene.sixOf(Edges.ALL_TRUE).answers(Call.count(bad, MIN, MAX), BitVectorWords.BAD_VECTOR);
            Scene.sixOf("").answers(Call.count(bad, MAX, MIN), BitVectorWords.BAD_VECTOR);
        }
    }

    public static void main(String[] args) {
        Check.sentence("count: How many elements with index from 'from' to 'to' are true", CountTest::howMany);
        Check.sentence("count: (both counted in)", CountTest::bothCountedIn);
        Check.sentence("count: from 'from' to 'to', from above to", CountTest::fromAboveTo);
        Check.sentence("count: those out of range don't count", CountTest::outOfRangeDoNotCount);
        Check.sentence("count: any ints", CountTest::anyInts);
        Check.sentence("count: those out of range don't count, where elements were cut off",
            CountTest::cutOffElements);
        Check.sentence("count: BAD_VECTOR", CountTest::badVector);
        Check.end();
    }
}

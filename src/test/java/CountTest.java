/** Promise 8. */
public final class CountTest {
    private static final int MIN = Integer.MIN_VALUE;
    private static final int MAX = Integer.MAX_VALUE;

    private static void counts(Subject x, int vector, int from, int to, int want) {
        Check.due("count " + vector + " " + from + " " + to, x.count(vector, from, to), want);
    }

    public static void main(String[] args) {
        Subject x = Subject.with("1111", "1011001", "1".repeat(256), "", "1", "1".repeat(256));
        counts(x, 1, 0, 6, 4);
        counts(x, 1, 1, 5, 2);
        counts(x, 1, 2, 2, 1);
        counts(x, 1, 1, 1, 0);
        counts(x, 1, 0, 0, 1);
        counts(x, 1, 6, 6, 1);
        counts(x, 1, 4, 2, 0);
        counts(x, 1, 3, 2, 0);
        counts(x, 1, -5, 2, 2);
        counts(x, 1, 3, 300, 2);
        counts(x, 1, 7, 300, 0);
        counts(x, 1, -3, -1, 0);
        counts(x, 1, MIN, MAX, 4);
        counts(x, 1, MAX, MIN, 0);
        counts(x, 1, MAX, MAX, 0);
        counts(x, 1, MIN, MIN, 0);
        counts(x, 2, MIN, MAX, 256);
        counts(x, 5, 0, 255, 256);
        counts(x, 5, 255, MAX, 1);
        counts(x, 5, 256, MAX, 0);
        counts(x, 3, MIN, MAX, 0);
        for (int vector : Subject.NOT_VECTORS) {
            counts(x, vector, 0, 3, BitVectorWords.BAD_VECTOR);
            counts(x, vector, 3, 0, BitVectorWords.BAD_VECTOR);
        }
        x.change(0, BitVectorWords.TAKE, 0, 2);
        counts(x, 0, 0, 3, 2);
        Check.end();
    }
}

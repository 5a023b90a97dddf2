/** Promise 3. */
public final class PutTest {
    private static void ordinary() {
        Subject x = Subject.with("", "0000000000");
        Check.due("put 1 2 4 0b1011", x.put(1, 2, 4, 0b1011), 4);
        Check.due("lowest bit first", x.show(1), "0011010000");
        Check.due("put 1 3 2 0b1110", x.put(1, 3, 2, 0b1110), 2);
        Check.due("bits above n are not looked at", x.show(1), "0010110000");
        Check.due("put 1 9 1 1", x.put(1, 9, 1, 1), 1);
        Check.due("last element", x.show(1), "0010110001");
        Check.due("put 1 0 10 0", x.put(1, 0, 10, 0), 10);
        Check.due("true becomes false", x.show(1), "0000000000");
    }

    private static void wholeWord() {
        Subject x = new Subject();
        x.make(5, 256);
        Check.due("put 5 224 32 -1", x.put(5, 224, 32, -1), 32);
        Check.due("put 5 0 32 MIN", x.put(5, 0, 32, Integer.MIN_VALUE), 32);
        Check.due("put 5 50 32 -2", x.put(5, 50, 32, -2), 32);
        Check.due("all of it", x.show(5), "0".repeat(31) + "1" + "0".repeat(19) + "1".repeat(31) + "0".repeat(142)
            + "1".repeat(32));
    }

    private static void refusals() {
        int[] wrongSizes = {0, -1, 33, 64, Integer.MIN_VALUE, Integer.MAX_VALUE};
        for (int n : wrongSizes) {
            Subject x = Subject.with("0".repeat(40), "1");
            Check.refused("put 0 0 " + n, x, () -> x.put(0, 0, n, -1), BitVectorWords.BAD_LENGTH);
        }
        int[] wrongIndexes = {-1, -32, 37, 40, 41, Integer.MIN_VALUE, Integer.MAX_VALUE, Integer.MAX_VALUE - 3};
        for (int index : wrongIndexes) {
            Subject x = Subject.with("0".repeat(40), "1");
            Check.refused("put 0 " + index + " 4", x, () -> x.put(0, index, 4, -1), BitVectorWords.BAD_INDEX);
        }
        for (int vector : Subject.NOT_VECTORS) {
            Subject x = Subject.with("0000", "0000", "0000", "0000", "0000", "0000");
            Check.refused("put " + vector, x, () -> x.put(vector, 0, 1, 1), BitVectorWords.BAD_VECTOR);
            Check.refused("put " + vector + " 0 0", x, () -> x.put(vector, 0, 0, 1), BitVectorWords.BAD_VECTOR);
        }
        Subject x = Subject.with("0000", "0000");
        Check.due("put 0 0 4", x.put(0, 0, 4, -1), 4);
        Check.refused("put 0 1 4", x, () -> x.put(0, 1, 4, 0), BitVectorWords.BAD_INDEX);
    }

    public static void main(String[] args) {
        ordinary();
        wholeWord();
        refusals();
        Check.end();
    }
}

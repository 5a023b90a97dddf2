/** Promise 2. */
public final class MakeTest {
    private static void lengths() {
        for (int length : new int[] {0, 1, 31, 32, 33, 63, 64, 65, 255, 256}) {
            Subject x = new Subject();
            Check.due("make 3 " + length, x.make(3, length), length);
            Check.due("its elements", x.show(3), "0".repeat(length));
            Check.due("its neighbours", x.length(2) + x.length(4), 0);
        }
    }

    private static void oldElementsAreGone() {
        Subject x = Subject.with("1111", "1111");
        Check.due("make 0 4 again", x.make(0, 4), 4);
        Check.due("all vectors", x.showAll(), "0=0000 1=1111 2= 3= 4= 5=");
        x.make(1, 1);
        x.make(1, 4);
        Check.due("shorter and longer again", x.show(1), "0000");
        x.change(2, BitVectorWords.NOT, 1, 0);
        x.make(3, 4);
        Check.due("make after a change", x.show(3), "0000");
        x.make(1, 0);
        Check.due("make 1 0", x.length(1), 0);
    }

    private static void refusals() {
        for (int vector : Subject.NOT_VECTORS) {
            Subject x = Subject.with("10", "01", "1", "0", "11", "00");
            Check.refused("make " + vector, x, () -> x.make(vector, 3), BitVectorWords.BAD_VECTOR);
            Check.refused("make " + vector + " -1", x, () -> x.make(vector, -1), BitVectorWords.BAD_VECTOR);
        }
        for (int length : new int[] {-1, 257, Integer.MIN_VALUE, Integer.MAX_VALUE}) {
            Subject x = Subject.with("10", "01", "1", "0", "11", "00");
            Check.refused("make 0 " + length, x, () -> x.make(0, length), BitVectorWords.BAD_LENGTH);
            Check.refused("make 5 " + length, x, () -> x.make(5, length), BitVectorWords.BAD_LENGTH);
        }
    }

    public static void main(String[] args) {
        lengths();
        oldElementsAreGone();
        refusals();
        Check.end();
    }
}

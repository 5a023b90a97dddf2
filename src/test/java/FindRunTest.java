/** Promise 10. */
public final class FindRunTest {
    private static final int MIN = Integer.MIN_VALUE;
    private static final int MAX = Integer.MAX_VALUE;

    private static void finds(Subject x, int vector, int from, int run, int want) {
        Check.due("findRun " + vector + " " + from + " " + run, x.findRun(vector, from, run), want);
    }

    public static void main(String[] args) {
        Subject x = Subject.with("1111", "0110111011", "1".repeat(256), "", "000", "1".repeat(256));
        finds(x, 1, 0, 1, 1);
        finds(x, 1, 0, 2, 1);
        finds(x, 1, 1, 2, 1);
        finds(x, 1, 2, 2, 4);
        finds(x, 1, 2, 1, 2);
        finds(x, 1, 0, 3, 4);
        finds(x, 1, 5, 2, 5);
        finds(x, 1, 5, 3, BitVectorWords.BAD_INDEX);
        finds(x, 1, 7, 2, 8);
        finds(x, 1, 9, 1, 9);
        finds(x, 1, 9, 2, BitVectorWords.BAD_INDEX);
        finds(x, 1, 0, 4, BitVectorWords.BAD_INDEX);
        finds(x, 0, 0, 4, 0);
        finds(x, 0, 0, 5, BitVectorWords.BAD_INDEX);
        finds(x, 2, 0, 256, 0);
        finds(x, 2, 1, 256, BitVectorWords.BAD_INDEX);
        finds(x, 2, 1, 255, 1);
        finds(x, 5, 255, 1, 255);
        finds(x, 5, 255, 2, BitVectorWords.BAD_INDEX);
        finds(x, 3, 0, 1, BitVectorWords.BAD_INDEX);
        finds(x, 4, 0, 1, BitVectorWords.BAD_INDEX);
        for (int from : new int[] {-1, MIN, 256, 257, MAX, MAX - 1}) {
            for (int vector = 0; vector < 6; vector++) {
                finds(x, vector, from, 1, BitVectorWords.BAD_INDEX);
                finds(x, vector, from, 256, BitVectorWords.BAD_INDEX);
            }
        }
        for (int run : new int[] {0, -1, 257, MIN, MAX}) {
            finds(x, 2, 0, run, BitVectorWords.BAD_LENGTH);
            finds(x, 3, 0, run, BitVectorWords.BAD_LENGTH);
        }
        for (int vector : Subject.NOT_VECTORS) {
            finds(x, vector, 0, 1, BitVectorWords.BAD_VECTOR);
            finds(x, vector, 0, 0, BitVectorWords.BAD_VECTOR);
            finds(x, vector, -1, 1, BitVectorWords.BAD_VECTOR);
        }
        x.change(0, BitVectorWords.TAKE, 0, 2);
        finds(x, 0, 0, 3, BitVectorWords.BAD_INDEX);
        Check.end();
    }
}

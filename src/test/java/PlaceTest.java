/** Promise 9. */
public final class PlaceTest {
    private static void place(Subject x, int vector, int n, int want) {
        Check.due("place " + vector + " " + n, x.place(vector, n), want);
    }

    public static void main(String[] args) {
        Subject x = Subject.with("1111", "0101100", "1".repeat(256), "", "0".repeat(255) + "1", "000");
        place(x, 1, 0, 1);
        place(x, 1, 1, 3);
        place(x, 1, 2, 4);
        place(x, 2, 0, 0);
        place(x, 2, 255, 255);
        place(x, 4, 0, 255);
        for (int n : new int[] {-1, 256, 257, Integer.MIN_VALUE, Integer.MAX_VALUE}) {
            for (int vector = 0; vector < 6; vector++) {
                place(x, vector, n, BitVectorWords.BAD_INDEX);
            }
        }
        place(x, 1, 3, BitVectorWords.BAD_INDEX);
        place(x, 3, 0, BitVectorWords.BAD_INDEX);
        place(x, 5, 0, BitVectorWords.BAD_INDEX);
        for (int vector : Subject.NOT_VECTORS) {
            place(x, vector, 0, BitVectorWords.BAD_VECTOR);
            place(x, vector, -1, BitVectorWords.BAD_VECTOR);
        }
        x.change(0, BitVectorWords.TAKE, 0, 2);
        place(x, 0, 2, BitVectorWords.BAD_INDEX);
        Check.end();
    }
}

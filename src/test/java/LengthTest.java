/** Promise 6. */
public final class LengthTest {
    public static void main(String[] args) {
        Subject x = Subject.with("", "1", "01", "1".repeat(33), "0".repeat(255), "1".repeat(256));
        int[] lengths = {0, 1, 2, 33, 255, 256};
        for (int v = 0; v < 6; v++) {
            Check.due("length " + v, x.length(v), lengths[v]);
            Check.due("length " + v + " again", x.length(v), lengths[v]);
        }
        x.combine(0, BitVectorWords.COMPRESS, 3, 3);
        Check.due("length after a combine", x.length(0), 33);
        x.change(5, BitVectorWords.TAKE, 5, 0);
        Check.due("length after a change", x.length(5), 0);
        for (int vector : Subject.NOT_VECTORS) {
            Check.due("length " + vector, x.length(vector), BitVectorWords.BAD_VECTOR);
        }
        Check.end();
    }
}

/** Promise 6. */
public final class LengthTest {
    private static void everyLength() {
        for (int v = 0; v < 6; v++) {
            for (int length = 0; length <= 256; length++) {
                Subject x = new Subject();
                x.make(v, length);
                Check.due("length " + v, x.length(v), length);
                Check.due("length " + v + " again", x.length(v), length);
                Check.due("length of its neighbour", x.length((v + 1) % 6), 0);
            }
        }
    }

    private static void lengthAfterOthers() {
        Subject x = Subject.with("", "1", "01", "1".repeat(33), "0".repeat(255), Edges.ALL_TRUE);
        x.combine(0, BitVectorWords.COMPRESS, 3, 3);
        Check.due("length after a combine", x.length(0), 33);
        x.change(5, BitVectorWords.TAKE, 5, 0);
        Check.due("length after a change to length 0", x.length(5), 0);
        x.change(5, BitVectorWords.STRETCH, 1, 256);
        Check.due("length after a change to length 256", x.length(5), 256);
        x.put(4, 254, 1, 1);
        Check.due("length after a put", x.length(4), 255);
        x.put(4, 255, 1, 1);
        Check.due("length after a refused put", x.length(4), 255);
    }

    private static void badVector() {
        for (int bad : Edges.NOT_VECTORS) {
            Scene.sixOf("").answers(Call.length(bad), BitVectorWords.BAD_VECTOR);
            Scene.sixOf("11").answers(Call.length(bad), BitVectorWords.BAD_VECTOR);
            Scene.sixOf(Edges.ALL_TRUE).answers(Call.length(bad), BitVectorWords.BAD_VECTOR);
        }
    }

    public static void main(String[] args) {
        Check.sentence("length: The vector's length", LengthTest::everyLength);
        Check.sentence("length: The vector's length, after the other calls", LengthTest::lengthAfterOthers);
        Check.sentence("length: BAD_VECTOR", LengthTest::badVector);
        Check.end();
    }
}

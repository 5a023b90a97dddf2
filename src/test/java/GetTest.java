/** Promise 7. */
public final class GetTest {
    private static void element() {
        for (int length : Edges.LENGTHS) {
            for (int index = 0; index < length; index++) {
                Subject x = Subject.with("", Edges.only(index, length), "", "", "", Edges.without(index, length));
                Check.due("get " + index + ", alone true of " + length, x.get(1, index), true);
                Check.due("get " + index + ", alone false of " + length, x.get(5, index), false);
                int other = (index + 1) % length;
                Check.due("get " + other + " of " + length, x.get(1, other), length == 1);
            }
        }
    }

    private static void vectorOutOfRange() {
        for (int bad : Edges.NOT_VECTORS) {
            for (int index : Edges.around(256)) {
                Scene.sixOf("11").answers(Call.get(bad, index), 0);
                Scene.sixOf(Edges.ALL_TRUE).answers(Call.get(bad, index), 0);
            }
        }
    }

    private static void indexOutOfRange() {
        for (int length : Edges.LENGTHS) {
            for (int v = 0; v < 6; v++) {
                Subject x = Subject.amongTrue(v, "1".repeat(length));
                for (int index : new int[] {-1, -2, -255, -256, -257, length, length + 1, 256, 257, 511, 512, 1 << 16,
                    -(1 << 16), Edges.MIN, Edges.MIN + 1, Edges.MIN + length, Edges.MAX, Edges.MAX - 1}) {
                    Check.due("get " + v + " " + index + " of length " + length, x.get(v, index), false);
                }
                if (length > 0) {
                    Check.due("get " + v + " 0 of length " + length, x.get(v, 0), true);
                    Check.due("get " + v + " last of length " + length, x.get(v, length - 1), true);
                }
            }
        }
    }

    private static void cutOffElements() {
        Subject x = Subject.with(Edges.ALL_TRUE, Edges.ALL_TRUE);
        x.change(0, BitVectorWords.TAKE, 0, 2);
        Check.due("get 0 1 after TAKE 2", x.get(0, 1), true);
        Check.due("get 0 2 after TAKE 2", x.get(0, 2), false);
        Check.due("get 0 255 after TAKE 2", x.get(0, 255), false);
        x.make(1, 0);
        Check.due("get 1 0 after make 0", x.get(1, 0), false);
    }

    public static void main(String[] args) {
        Check.sentence("get: The vector's element at this index", GetTest::element);
        Check.sentence("get: false if the vector is out of range", GetTest::vectorOutOfRange);
        Check.sentence("get: false if the index is out of range", GetTest::indexOutOfRange);
        Check.sentence("get: false if the index is out of range, where elements were cut off",
            GetTest::cutOffElements);
        Check.end();
    }
}

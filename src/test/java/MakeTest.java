/** Promise 2. */
public final class MakeTest {
    private static void getsLength() {
        for (int before : new int[] {0, 1, 100, 256}) {
            for (int length : Edges.LENGTHS) {
                Scene x = Scene.sixOf(Edges.mixed(before));
                x.becomes(Call.make(0, length), length, 0, "0".repeat(length));
                x.becomes(Call.make(5, length), length, 5, "0".repeat(length));
            }
        }
    }

    private static void allFalse() {
        Scene full = Scene.sixOf(Edges.ALL_TRUE);
        full.becomes(Call.make(0, 256), 256, 0, Edges.ALL_FALSE);
        full.becomes(Call.make(5, 255), 255, 5, "0".repeat(255));
        full.becomes(Call.make(3, 1), 1, 3, "0");

        Subject x = Subject.with(Edges.ALL_TRUE);
        x.make(0, 0);
        x.make(0, 256);
        Check.due("from 256 to 0 and back", x.count(0, 0, 255), 0);
        x = Subject.with("1111");
        x.make(0, 1);
        x.make(0, 4);
        Check.due("from 4 to 1 and back", x.show(0), "0000");
        x = Subject.with(Edges.ALL_FALSE);
        x.change(0, BitVectorWords.NOT, 0, 0);
        x.make(1, 256);
        Check.due("after a change of another vector", x.count(1, 0, 255), 0);
    }

    private static void badVector() {
        for (int bad : Edges.NOT_VECTORS) {
            for (int length : new int[] {0, 1, 256, -1, 257}) {
                Scene.sixOf("10").answers(Call.make(bad, length), BitVectorWords.BAD_VECTOR);
            }
        }
    }

    private static void badLength() {
        for (int v = 0; v < 6; v++) {
            for (int length : Edges.outside(0, 256)) {
                Scene.sixOf("10").answers(Call.make(v, length), BitVectorWords.BAD_LENGTH);
                Scene.sixOf(Edges.ALL_TRUE).answers(Call.make(v, length), BitVectorWords.BAD_LENGTH);
            }
            Scene.sixOf("10").becomes(Call.make(v, 0), 0, v, "");
            Scene.sixOf("10").becomes(Call.make(v, 256), 256, v, Edges.ALL_FALSE);
        }
    }

    private static void answersLength() {
        for (int length = 0; length <= 256; length++) {
            Check.due("make 3 " + length, new Subject().make(3, length), length);
        }
    }

    public static void main(String[] args) {
        Check.sentence("make: The vector gets this length", MakeTest::getsLength);
        Check.sentence("make: and all elements false", MakeTest::allFalse);
        Check.sentence("make: BAD_VECTOR", MakeTest::badVector);
        Check.sentence("make: length not in 0 to 256: BAD_LENGTH", MakeTest::badLength);
        Check.sentence("make: Else answers the length", MakeTest::answersLength);
        Check.end();
    }
}

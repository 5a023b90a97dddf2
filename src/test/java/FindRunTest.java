/** Promise 10. */
public final class FindRunTest {
    private static final int NONE = BitVectorWords.BAD_INDEX;

    private static void finds(Subject x, int vector, int from, int run, int want) {
        Check.due("findRun " + vector + " " + from + " " + run, x.findRun(vector, from, run), want);
    }

    private static void smallestIndex() {
        Subject x = Subject.with("0110111011", Edges.ALL_TRUE, Edges.only(255, 256), "1", "0", Edges.without(128, 256));
        finds(x, 0, 0, 1, 1);
        finds(x, 0, 0, 2, 1);
        finds(x, 0, 0, 3, 4);
        finds(x, 1, 0, 1, 0);
        finds(x, 1, 0, 256, 0);
        finds(x, 2, 0, 1, 255);
        finds(x, 3, 0, 1, 0);
        finds(x, 5, 0, 127, 0);
        finds(x, 5, 0, 128, 0);
        finds(x, 5, 2, 127, 129);
    }

    private static void ofAtLeastFrom() {
        Subject x = Subject.with("0110111011", Edges.ALL_TRUE);
        finds(x, 0, 1, 2, 1);
        finds(x, 0, 2, 2, 4);
        finds(x, 0, 2, 1, 2);
        finds(x, 0, 3, 1, 4);
        finds(x, 0, 5, 2, 5);
        finds(x, 0, 5, 3, NONE);
        finds(x, 0, 6, 2, 8);
        finds(x, 0, 9, 1, 9);
        finds(x, 1, 1, 255, 1);
        finds(x, 1, 255, 1, 255);
    }

    private static void elementsExist() {
        for (int length : Edges.LENGTHS) {
            Subject x = Subject.amongTrue(1, "1".repeat(length));
            for (int run : new int[] {1, 2, 31, 32, 33, 255, 256}) {
                int last = length - run;
                finds(x, 1, 0, run, last < 0 ? NONE : 0);
                if (last >= 0) {
                    finds(x, 1, last, run, last);
                }
                finds(x, 1, Math.max(last + 1, 0), run, NONE);
                finds(x, 1, length, run, NONE);
                finds(x, 1, length + 1, run, NONE);
            }
        }
    }

    private static void badLength() {
        Subject x = Subject.with("1111", "", Edges.ALL_TRUE, Edges.ALL_FALSE);
        for (int v = 0; v < 4; v++) {
            for (int run : Edges.outside(1, 256)) {
                finds(x, v, 0, run, BitVectorWords.BAD_LENGTH);
                finds(x, v, 255, run, BitVectorWords.BAD_LENGTH);
            }
        }
        finds(x, 2, 0, 1, 0);
        finds(x, 2, 0, 256, 0);
        finds(x, 0, 0, 256, NONE);
    }

    private static void fromNegative() {
        for (int from : new int[] {-1, -2, -31, -32, -255, -256, -257, -(1 << 16), Edges.MIN, Edges.MIN + 1}) {
            Subject x = Subject.sixOf(Edges.ALL_TRUE);
            for (int v = 0; v < 6; v++) {
                finds(x, v, from, 1, NONE);
                finds(x, v, from, 2, NONE);
                finds(x, v, from, 256, NONE);
            }
            finds(Subject.with("1"), 0, from, 1, NONE);
            finds(Subject.with(""), 0, from, 1, NONE);
        }
        finds(Subject.with("1"), 0, 0, 1, 0);
    }

    private static void noSuchIndex() {
        Subject x = Subject.with("0110111011", Edges.ALL_FALSE, Edges.without(128, 256), "000", "10".repeat(128));
        finds(x, 0, 0, 4, NONE);
        finds(x, 0, 9, 2, NONE);
        finds(x, 1, 0, 1, NONE);
        finds(x, 2, 0, 129, NONE);
        finds(x, 2, 1, 128, NONE);
        finds(x, 3, 0, 1, NONE);
        finds(x, 4, 0, 2, NONE);
        finds(x, 4, 255, 1, NONE);
    }

    private static void emptyVector() {
        Subject x = Subject.with("", Edges.ALL_TRUE, "", Edges.ALL_TRUE, "", "");
        for (int v : new int[] {0, 2, 4, 5}) {
            for (int from : new int[] {0, 1, 255, 256, Edges.MAX}) {
                finds(x, v, from, 1, NONE);
                finds(x, v, from, 256, NONE);
            }
        }
    }

    private static void fromFar() {
        Subject x = Subject.sixOf(Edges.ALL_TRUE);
        for (int v = 0; v < 6; v++) {
            for (int from : new int[] {256, 257, 1 << 16, Edges.MAX - 256, Edges.MAX - 255, Edges.MAX - 1, Edges.MAX}) {
                for (int run : new int[] {1, 2, 255, 256}) {
                    finds(x, v, from, run, NONE);
                }
            }
        }
    }

    private static void cutOffElements() {
        Subject x = Subject.with(Edges.ALL_TRUE);
        x.change(0, BitVectorWords.TAKE, 0, 2);
        finds(x, 0, 0, 2, 0);
        finds(x, 0, 0, 3, NONE);
        finds(x, 0, 2, 1, NONE);
        x.make(0, 0);
        finds(x, 0, 0, 1, NONE);
    }

    private static void badVector() {
        for (int bad : Edges.NOT_VECTORS) {
            for (String six : new String[] {"", "11", Edges.ALL_TRUE}) {
                Scene.sixOf(six).answers(Call.findRun(bad, 0, 1), BitVectorWords.BAD_VECTOR);
                Scene.sixOf(six).answers(Call.findRun(bad, 0, 0), BitVectorWords.BAD_VECTOR);
                Scene.sixOf(six).answers(Call.findRun(bad, -1, 1), BitVectorWords.BAD_VECTOR);
                Scene.sixOf(six).answers(Call.findRun(bad, -1, 257), BitVectorWords.BAD_VECTOR);
            }
        }
    }

    public static void main(String[] args) {
        Check.sentence("findRun: The smallest index i", FindRunTest::smallestIndex);
        Check.sentence("findRun: of at least 'from'", FindRunTest::ofAtLeastFrom);
        Check.sentence("findRun: elements i, i + 1, .. i + run - 1 exist", FindRunTest::elementsExist);
        Check.sentence("findRun: run not in 1 to 256: BAD_LENGTH", FindRunTest::badLength);
        Check.sentence("findRun: from negative: BAD_INDEX", FindRunTest::fromNegative);
        Check.sentence("findRun: there is no such i: BAD_INDEX", FindRunTest::noSuchIndex);
        Check.sentence("findRun: there is no such i, the vector having length 0: BAD_INDEX", FindRunTest::emptyVector);
        Check.sentence("findRun: there is no such i, from being far too large: BAD_INDEX", FindRunTest::fromFar);
        Check.sentence("findRun: there is no such i, the elements having been cut off: BAD_INDEX",
            FindRunTest::cutOffElements);
        Check.sentence("findRun: BAD_VECTOR", FindRunTest::badVector);
        Check.end();
    }
}

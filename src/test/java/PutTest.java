/** Promise 3. */
public final class PutTest {
    private static void givesTheseElements() {
        for (int length : new int[] {32, 33, 40, 255, 256}) {
            for (int n : new int[] {1, 2, 31, 32}) {
                for (int index : new int[] {0, (length - n) / 2, length - n}) {
                    String low = "0".repeat(index);
                    String high = "0".repeat(length - index - n);
                    Scene.sixOf("0".repeat(length)).becomes(Call.put(2, index, n, -1), n, 2,
                        low + "1".repeat(n) + high);
                    Scene.sixOf("1".repeat(length)).becomes(Call.put(2, index, n, 0), n, 2,
                        low.replace('0', '1') + "0".repeat(n) + high.replace('0', '1'));
                }
            }
        }
    }

    private static void lowestBits() {
        Scene x = Scene.sixOf("0000000000");
        x.becomes(Call.put(1, 2, 4, 0b1011), 4, 1, "0011010000");
        x.becomes(Call.put(1, 2, 4, 0b11111011), 4, 1, "0011010000");
        x.becomes(Call.put(1, 9, 1, -2), 1, 1, "0000000000");
        x.becomes(Call.put(1, 9, 1, Edges.MAX), 1, 1, "0000000001");
        Scene wide = Scene.sixOf("0".repeat(32));
        wide.becomes(Call.put(0, 0, 31, Edges.MIN), 31, 0, "0".repeat(32));
        wide.becomes(Call.put(0, 1, 31, Edges.MIN), 31, 0, "0".repeat(32));
        wide.becomes(Call.put(0, 0, 31, -1), 31, 0, "1".repeat(31) + "0");
    }

    private static void eachBit() {
        for (int j = 0; j < 32; j++) {
            String one = Edges.only(j, 32);
            String others = Edges.without(j, 32);
            new Scene("0".repeat(32)).becomes(Call.put(0, 0, 32, 1 << j), 32, 0, one);
            new Scene("1".repeat(32)).becomes(Call.put(0, 0, 32, ~(1 << j)), 32, 0, others);
            new Scene(Edges.ALL_TRUE).becomes(Call.put(0, 224, 32, 1 << j), 32, 0, "1".repeat(224) + one);
            new Scene(Edges.ALL_FALSE).becomes(Call.put(0, 17, 32, ~(1 << j)), 32, 0,
                "0".repeat(17) + others + "0".repeat(207));
        }
    }

    private static void endsOfBits() {
        String mixed = Edges.mixed(32);
        new Scene(mixed).becomes(Call.put(0, 0, 32, 0), 32, 0, "0".repeat(32));
        new Scene(mixed).becomes(Call.put(0, 0, 32, -1), 32, 0, "1".repeat(32));
        new Scene(mixed).becomes(Call.put(0, 0, 32, Edges.MIN), 32, 0, "0".repeat(31) + "1");
        new Scene(mixed).becomes(Call.put(0, 0, 32, Edges.MAX), 32, 0, "1".repeat(31) + "0");
    }

    private static void badVector() {
        for (int bad : Edges.NOT_VECTORS) {
            Scene.sixOf("0000").answers(Call.put(bad, 0, 1, 1), BitVectorWords.BAD_VECTOR);
            Scene.sixOf(Edges.ALL_FALSE).answers(Call.put(bad, 224, 32, -1), BitVectorWords.BAD_VECTOR);
            Scene.sixOf("0000").answers(Call.put(bad, 0, 0, 1), BitVectorWords.BAD_VECTOR);
            Scene.sixOf("0000").answers(Call.put(bad, -1, 1, 1), BitVectorWords.BAD_VECTOR);
        }
    }

    private static void badLength() {
        for (int n : Edges.outside(1, 32)) {
            for (int bits : new int[] {0, -1}) {
                Scene.sixOf(Edges.mixed(256)).answers(Call.put(0, 0, n, bits), BitVectorWords.BAD_LENGTH);
                Scene.sixOf(Edges.mixed(256)).answers(Call.put(5, 100, n, bits), BitVectorWords.BAD_LENGTH);
                Scene.sixOf(Edges.mixed(40)).answers(Call.put(3, 0, n, bits), BitVectorWords.BAD_LENGTH);
                new Scene().answers(Call.put(3, 0, n, bits), BitVectorWords.BAD_LENGTH);
            }
        }
        for (int n = 1; n <= 32; n++) {
            Scene.sixOf("0".repeat(40)).becomes(Call.put(3, 0, n, -1), n, 3, "1".repeat(n) + "0".repeat(40 - n));
        }
    }

    private static void negativeIndex() {
        for (int n : new int[] {1, 2, 31, 32}) {
            for (int index : new int[] {-1, -2, -n, -n - 1, -256, -257, Edges.MIN, Edges.MIN + 1, Edges.MIN + n}) {
                for (int v = 0; v < 6; v++) {
                    Scene.sixOf(Edges.ALL_FALSE).answers(Call.put(v, index, n, -1), BitVectorWords.BAD_INDEX);
                }
                new Scene().answers(Call.put(0, index, n, -1), BitVectorWords.BAD_INDEX);
            }
            Scene.sixOf("0".repeat(32)).becomes(Call.put(0, 0, n, -1), n, 0, "1".repeat(n) + "0".repeat(32 - n));
        }
    }

    private static void aboveLength() {
        for (int length : Edges.LENGTHS) {
            Scene x = Scene.sixOf("0".repeat(length));
            for (int n : new int[] {1, 2, 31, 32}) {
                int last = length - n;
                for (int index : new int[] {last + 1, last + 2, length, length + 1, 256, 257}) {
                    if (index >= 0) {
                        x.answers(Call.put(0, index, n, -1), BitVectorWords.BAD_INDEX);
                        x.answers(Call.put(5, index, n, -1), BitVectorWords.BAD_INDEX);
                    }
                }
                if (last >= 0) {
                    x.becomes(Call.put(5, last, n, -1), n, 5, "0".repeat(last) + "1".repeat(n));
                } else {
                    x.answers(Call.put(5, 0, n, -1), BitVectorWords.BAD_INDEX);
                }
            }
        }
    }

    private static void sumWouldWrap() {
        for (int n = 1; n <= 32; n++) {
            for (int index = Edges.MAX - 33; index > 0; index++) {
                Check.due("put 0 " + index + " " + n, Subject.with(Edges.ALL_FALSE).put(0, index, n, -1),
                    BitVectorWords.BAD_INDEX);
            }
            Scene.sixOf(Edges.ALL_FALSE).answers(Call.put(0, Edges.MAX, n, -1), BitVectorWords.BAD_INDEX);
            Scene.sixOf(Edges.ALL_FALSE).answers(Call.put(5, Edges.MAX - n + 1, n, -1), BitVectorWords.BAD_INDEX);
        }
    }

    private static void answersN() {
        for (int n = 1; n <= 32; n++) {
            Subject x = Subject.with(Edges.ALL_TRUE, "1".repeat(n));
            Check.due("put 0 0 " + n, x.put(0, 0, n, 0), n);
            Check.due("put 0 " + (256 - n) + " " + n, x.put(0, 256 - n, n, -1), n);
            Check.due("put 1 0 " + n + ", all of it", x.put(1, 0, n, 5), n);
        }
    }

    public static void main(String[] args) {
        Check.sentence("put: Gives elements index, index + 1, .. index + n - 1", PutTest::givesTheseElements);
        Check.sentence("put: the n lowest bits of 'bits'", PutTest::lowestBits);
        Check.sentence("put: element index + j becomes true exactly if (bits >> j) & 1 is 1", PutTest::eachBit);
        Check.sentence("put: the same, bits at the ends of the int range", PutTest::endsOfBits);
        Check.sentence("put: BAD_VECTOR", PutTest::badVector);
        Check.sentence("put: n not in 1 to 32: BAD_LENGTH", PutTest::badLength);
        Check.sentence("put: index negative: BAD_INDEX", PutTest::negativeIndex);
        Check.sentence("put: index + n above the length: BAD_INDEX", PutTest::aboveLength);
        Check.sentence("put: index + n above the length, where the sum leaves the int range: BAD_INDEX",
            PutTest::sumWouldWrap);
        Check.sentence("put: Else answers n", PutTest::answersN);
        Check.end();
    }
}

/** Promise 4. */
public final class ChangeTest {
    private static final int MIN = Edges.MIN;
    private static final int MAX = Edges.MAX;
    private static final int[] KINDS_WITHOUT_K = {BitVectorWords.NOT, BitVectorWords.REVERSE, BitVectorWords.SCAN_AND,
        BitVectorWords.SCAN_OR, BitVectorWords.SCAN_XOR};

    /** The change into a longer and a shorter vector and into the vector itself. */
    private static void gives(int kind, String from, int k, String want) {
        Scene x = new Scene("1", from, Edges.ALL_TRUE, from, "0110", "");
        for (int to : new int[] {1, 2, 5}) {
            x.becomes(Call.change(to, kind, 1, k), want.length(), to, want);
        }
        x.becomes(Call.change(0, kind, 3, k), want.length(), 0, want);
    }

    private static void refuses(int answer, int kind, String from, int k) {
        Scene x = new Scene("1", from, Edges.ALL_TRUE, from, "0110", "");
        for (int to : new int[] {1, 2, 5}) {
            x.answers(Call.change(to, kind, 1, k), answer);
        }
        x.answers(Call.change(3, kind, 3, k), answer);
    }

    private static void not() {
        gives(BitVectorWords.NOT, "1101000", 0, "0010111");
        gives(BitVectorWords.NOT, "1", 0, "0");
        gives(BitVectorWords.NOT, "0", 0, "1");
        gives(BitVectorWords.NOT, "", 0, "");
        gives(BitVectorWords.NOT, Edges.ALL_FALSE, 0, Edges.ALL_TRUE);
        gives(BitVectorWords.NOT, Edges.ALL_TRUE, 0, Edges.ALL_FALSE);
        gives(BitVectorWords.NOT, Edges.only(255, 256), 0, Edges.without(255, 256));
    }

    private static void reverse() {
        gives(BitVectorWords.REVERSE, "1101000", 0, "0001011");
        gives(BitVectorWords.REVERSE, "0001", 0, "1000");
        gives(BitVectorWords.REVERSE, "10", 0, "01");
        gives(BitVectorWords.REVERSE, "1", 0, "1");
        gives(BitVectorWords.REVERSE, "", 0, "");
        gives(BitVectorWords.REVERSE, Edges.only(0, 256), 0, Edges.only(255, 256));
        gives(BitVectorWords.REVERSE, Edges.only(255, 256), 0, Edges.only(0, 256));
        gives(BitVectorWords.REVERSE, Edges.only(127, 255), 0, Edges.only(127, 255));
        gives(BitVectorWords.REVERSE, "1".repeat(100) + "0".repeat(156), 0, "0".repeat(156) + "1".repeat(100));
    }

    private static void rotate() {
        gives(BitVectorWords.ROTATE, "11010", 0, "11010");
        gives(BitVectorWords.ROTATE, "11010", 1, "10101");
        gives(BitVectorWords.ROTATE, "11010", 2, "01011");
        gives(BitVectorWords.ROTATE, "11010", 4, "01101");
        gives(BitVectorWords.ROTATE, "11010", 5, "11010");
        gives(BitVectorWords.ROTATE, "11010", 6, "10101");
        gives(BitVectorWords.ROTATE, "11010", 12, "01011");
        gives(BitVectorWords.ROTATE, "1", 1, "1");
        gives(BitVectorWords.ROTATE, Edges.only(0, 256), 1, Edges.only(255, 256));
        gives(BitVectorWords.ROTATE, Edges.only(255, 256), 255, Edges.only(0, 256));
        gives(BitVectorWords.ROTATE, Edges.only(9, 256), 256, Edges.only(9, 256));
        gives(BitVectorWords.ROTATE, Edges.only(9, 256), 257, Edges.only(8, 256));
    }

    private static void rotateNegative() {
        gives(BitVectorWords.ROTATE, "11010", -1, "01101");
        gives(BitVectorWords.ROTATE, "11010", -4, "10101");
        gives(BitVectorWords.ROTATE, "11010", -5, "11010");
        gives(BitVectorWords.ROTATE, "11010", -6, "01101");
        gives(BitVectorWords.ROTATE, "11010", -11, "01101");
        gives(BitVectorWords.ROTATE, "1", -1, "1");
        gives(BitVectorWords.ROTATE, Edges.only(255, 256), -1, Edges.only(0, 256));
        gives(BitVectorWords.ROTATE, Edges.only(0, 256), -255, Edges.only(255, 256));
        gives(BitVectorWords.ROTATE, Edges.only(9, 256), -256, Edges.only(9, 256));
        gives(BitVectorWords.ROTATE, Edges.only(9, 256), -257, Edges.only(10, 256));
    }

    /** The one true element, 0, comes to the index i in 0 to m - 1 for which i + k is a multiple of m. */
    private static void rotateFar() {
        for (int m : new int[] {1, 2, 3, 5, 31, 32, 33, 100, 128, 255, 256}) {
            for (long k : new long[] {MAX, MAX - 1, MAX - m + 1, MAX - m, MIN, MIN + 1, MIN + m - 1, MIN + m}) {
                long at = 0;
                while ((at + k) % m != 0) {
                    at++;
                }
                gives(BitVectorWords.ROTATE, Edges.only(0, m), (int) k, Edges.only((int) at, m));
            }
        }
        // 2147483647 and -2147483648 both are 2 more than a multiple of 5.
        gives(BitVectorWords.ROTATE, "11010", MAX, "01011");
        gives(BitVectorWords.ROTATE, "11010", MIN, "01011");
    }

    private static void rotateEmpty() {
        for (int k : Edges.around(256)) {
            gives(BitVectorWords.ROTATE, "", k, "");
        }
    }

    private static void shift() {
        gives(BitVectorWords.SHIFT, "11011", 0, "11011");
        gives(BitVectorWords.SHIFT, "11011", 1, "10110");
        gives(BitVectorWords.SHIFT, "11011", 4, "10000");
        gives(BitVectorWords.SHIFT, "11011", 5, "00000");
        gives(BitVectorWords.SHIFT, "11011", 6, "00000");
        gives(BitVectorWords.SHIFT, "11011", -1, "01101");
        gives(BitVectorWords.SHIFT, "11011", -4, "00001");
        gives(BitVectorWords.SHIFT, "11011", -5, "00000");
        gives(BitVectorWords.SHIFT, "11011", -6, "00000");
        gives(BitVectorWords.SHIFT, "1", 0, "1");
        gives(BitVectorWords.SHIFT, "1", 1, "0");
        gives(BitVectorWords.SHIFT, "1", -1, "0");
        for (int k : Edges.around(0)) {
            gives(BitVectorWords.SHIFT, "", k, "");
        }
        gives(BitVectorWords.SHIFT, Edges.ALL_TRUE, 1, Edges.without(255, 256));
        gives(BitVectorWords.SHIFT, Edges.ALL_TRUE, -1, Edges.without(0, 256));
        gives(BitVectorWords.SHIFT, Edges.ALL_TRUE, 255, Edges.only(0, 256));
        gives(BitVectorWords.SHIFT, Edges.ALL_TRUE, -255, Edges.only(255, 256));
        gives(BitVectorWords.SHIFT, Edges.ALL_TRUE, 256, Edges.ALL_FALSE);
        gives(BitVectorWords.SHIFT, Edges.ALL_TRUE, -256, Edges.ALL_FALSE);
    }

    private static void shiftDoesNotWrap() {
        for (int near = 0; near <= 257; near++) {
            gives(BitVectorWords.SHIFT, Edges.ALL_TRUE, MAX - near, Edges.ALL_FALSE);
            gives(BitVectorWords.SHIFT, Edges.ALL_TRUE, MIN + near, Edges.ALL_FALSE);
        }
        for (int k : new int[] {1 << 8, 1 << 16, 1 << 30, 257, 65535, -(1 << 8), -(1 << 16), -(1 << 30), -65535}) {
            gives(BitVectorWords.SHIFT, "1".repeat(255), k, "0".repeat(255));
        }
    }

    private static void take() {
        gives(BitVectorWords.TAKE, "11011", 0, "");
        gives(BitVectorWords.TAKE, "11011", 1, "1");
        gives(BitVectorWords.TAKE, "11011", 4, "1101");
        gives(BitVectorWords.TAKE, "11011", 5, "11011");
        gives(BitVectorWords.TAKE, "11011", 6, "110110");
        gives(BitVectorWords.TAKE, "11011", 256, "11011" + "0".repeat(251));
        gives(BitVectorWords.TAKE, Edges.ALL_TRUE, 0, "");
        gives(BitVectorWords.TAKE, Edges.ALL_TRUE, 255, "1".repeat(255));
        gives(BitVectorWords.TAKE, Edges.ALL_TRUE, 256, Edges.ALL_TRUE);
        gives(BitVectorWords.TAKE, "1".repeat(255), 256, Edges.without(255, 256));
        gives(BitVectorWords.TAKE, "", 0, "");
        gives(BitVectorWords.TAKE, "", 1, "0");
        gives(BitVectorWords.TAKE, "", 256, Edges.ALL_FALSE);
    }

    private static void takeOfCutOffElements() {
        Subject x = Subject.with(Edges.ALL_TRUE);
        x.change(0, BitVectorWords.TAKE, 0, 1);
        x.change(0, BitVectorWords.TAKE, 0, 256);
        Check.due("TAKE 1, then TAKE 256", x.show(0), Edges.only(0, 256));
        x = Subject.with(Edges.ALL_TRUE);
        x.make(0, 0);
        x.change(0, BitVectorWords.TAKE, 0, 256);
        Check.due("make 0, then TAKE 256", x.show(0), Edges.ALL_FALSE);
    }

    private static void takeBadLength() {
        for (int k : Edges.outside(0, 256)) {
            for (String from : new String[] {"", "1", "11011", Edges.ALL_TRUE}) {
                refuses(BitVectorWords.BAD_LENGTH, BitVectorWords.TAKE, from, k);
            }
        }
        gives(BitVectorWords.TAKE, "1", 0, "");
        gives(BitVectorWords.TAKE, "1", 256, Edges.only(0, 256));
    }

    private static void stretch() {
        gives(BitVectorWords.STRETCH, "1101", 1, "1101");
        gives(BitVectorWords.STRETCH, "1101", 2, "11110011");
        gives(BitVectorWords.STRETCH, "1101", 3, "111111000111");
        gives(BitVectorWords.STRETCH, "", 1, "");
        gives(BitVectorWords.STRETCH, "", 2, "");
        gives(BitVectorWords.STRETCH, "", 256, "");
        gives(BitVectorWords.STRETCH, "1", 256, Edges.ALL_TRUE);
        gives(BitVectorWords.STRETCH, "10", 128, "1".repeat(128) + "0".repeat(128));
        gives(BitVectorWords.STRETCH, "10".repeat(64), 2, "1100".repeat(64));
        gives(BitVectorWords.STRETCH, "10".repeat(128), 1, "10".repeat(128));
    }

    private static void stretchBadFactor() {
        for (int k : Edges.outside(1, 256)) {
            for (String from : new String[] {"", "1", "101", Edges.ALL_TRUE}) {
                refuses(BitVectorWords.BAD_LENGTH, BitVectorWords.STRETCH, from, k);
            }
        }
        // 3 * 1431655766 is 2 and 256 * 16777217 is 256 in wrapped ints.
        refuses(BitVectorWords.BAD_LENGTH, BitVectorWords.STRETCH, "101", 1431655766);
        refuses(BitVectorWords.BAD_LENGTH, BitVectorWords.STRETCH, Edges.ALL_TRUE, 16777217);
        gives(BitVectorWords.STRETCH, "1", 1, "1");
        gives(BitVectorWords.STRETCH, "1", 256, Edges.ALL_TRUE);
    }

    private static void stretchTooLong() {
        for (int m = 1; m <= 256; m++) {
            int most = 256 / m;
            gives(BitVectorWords.STRETCH, Edges.only(m - 1, m), most,
                "0".repeat(most * (m - 1)) + "1".repeat(most));
            refuses(BitVectorWords.BAD_LENGTH, BitVectorWords.STRETCH, "1".repeat(m), most + 1);
            refuses(BitVectorWords.BAD_LENGTH, BitVectorWords.STRETCH, "1".repeat(m), m == 1 ? 257 : 256);
        }
    }

    private static void scanAnd() {
        gives(BitVectorWords.SCAN_AND, "1101110", 0, "1100000");
        gives(BitVectorWords.SCAN_AND, "0111", 0, "0000");
        gives(BitVectorWords.SCAN_AND, "1111", 0, "1111");
        gives(BitVectorWords.SCAN_AND, "1110", 0, "1110");
        gives(BitVectorWords.SCAN_AND, "0", 0, "0");
        gives(BitVectorWords.SCAN_AND, "1", 0, "1");
        gives(BitVectorWords.SCAN_AND, "", 0, "");
        gives(BitVectorWords.SCAN_AND, Edges.ALL_TRUE, 0, Edges.ALL_TRUE);
        gives(BitVectorWords.SCAN_AND, Edges.without(0, 256), 0, Edges.ALL_FALSE);
        gives(BitVectorWords.SCAN_AND, Edges.without(254, 256), 0, "1".repeat(254) + "00");
        gives(BitVectorWords.SCAN_AND, Edges.without(255, 256), 0, Edges.without(255, 256));
    }

    private static void scanOr() {
        gives(BitVectorWords.SCAN_OR, "0010010", 0, "0011111");
        gives(BitVectorWords.SCAN_OR, "1000", 0, "1111");
        gives(BitVectorWords.SCAN_OR, "0001", 0, "0001");
        gives(BitVectorWords.SCAN_OR, "0000", 0, "0000");
        gives(BitVectorWords.SCAN_OR, "0", 0, "0");
        gives(BitVectorWords.SCAN_OR, "1", 0, "1");
        gives(BitVectorWords.SCAN_OR, "", 0, "");
        gives(BitVectorWords.SCAN_OR, Edges.ALL_FALSE, 0, Edges.ALL_FALSE);
        gives(BitVectorWords.SCAN_OR, Edges.only(0, 256), 0, Edges.ALL_TRUE);
        gives(BitVectorWords.SCAN_OR, Edges.only(254, 256), 0, "0".repeat(254) + "11");
        gives(BitVectorWords.SCAN_OR, Edges.only(255, 256), 0, Edges.only(255, 256));
    }

    private static void scanXor() {
        gives(BitVectorWords.SCAN_XOR, "1101001", 0, "1001110");
        gives(BitVectorWords.SCAN_XOR, "0000", 0, "0000");
        gives(BitVectorWords.SCAN_XOR, "0", 0, "0");
        gives(BitVectorWords.SCAN_XOR, "1", 0, "1");
        gives(BitVectorWords.SCAN_XOR, "", 0, "");
        gives(BitVectorWords.SCAN_XOR, Edges.ALL_FALSE, 0, Edges.ALL_FALSE);
        gives(BitVectorWords.SCAN_XOR, Edges.ALL_TRUE, 0, "10".repeat(128));
        gives(BitVectorWords.SCAN_XOR, Edges.only(0, 256), 0, Edges.ALL_TRUE);
        gives(BitVectorWords.SCAN_XOR, Edges.only(255, 256), 0, Edges.only(255, 256));
    }

    private static void doNotLookAtK() {
        for (int kind : KINDS_WITHOUT_K) {
            for (String from : new String[] {"", "1", "0110", Edges.mixed(256)}) {
                Scene x = new Scene("1", from);
                String want = shownAfter(from, kind);
                for (int k : Edges.around(256)) {
                    x.becomes(Call.change(0, kind, 1, k), from.length(), 0, want);
                    x.becomes(Call.change(1, kind, 1, k), from.length(), 1, want);
                }
            }
        }
    }

    private static String shownAfter(String from, int kind) {
        Subject x = Subject.with("1", from);
        x.change(0, kind, 1, 1);
        return x.show(0);
    }

    private static void badVector() {
        Scene x = new Scene("10", "101", "", "1", "0110", Edges.ALL_TRUE);
        for (int bad : Edges.NOT_VECTORS) {
            for (int kind = -1; kind <= 9; kind++) {
                for (int k : new int[] {0, 1, -1, 257}) {
                    x.answers(Call.change(bad, kind, 1, k), BitVectorWords.BAD_VECTOR);
                    x.answers(Call.change(1, kind, bad, k), BitVectorWords.BAD_VECTOR);
                    x.answers(Call.change(bad, kind, bad, k), BitVectorWords.BAD_VECTOR);
                }
            }
        }
    }

    private static void badKind() {
        for (int kind : Edges.outside(0, 8)) {
            for (String from : new String[] {"", "101", Edges.ALL_TRUE}) {
                refuses(BitVectorWords.BAD_KIND, kind, from, 1);
                refuses(BitVectorWords.BAD_KIND, kind, from, 0);
            }
        }
        gives(0, "110", 1, "001");
        gives(8, "110", 1, "100");
    }

    private static void kindBeforeLength() {
        for (int kind : Edges.outside(0, 8)) {
            for (int k : Edges.outside(0, 256)) {
                refuses(BitVectorWords.BAD_KIND, kind, "101", k);
            }
            refuses(BitVectorWords.BAD_KIND, kind, Edges.ALL_TRUE, 2);
        }
    }

    private static void answersNewLength() {
        for (int m : Edges.LENGTHS) {
            for (int kind = 0; kind <= 8; kind++) {
                Subject x = Subject.with("1111", Edges.mixed(m));
                boolean takes = kind == BitVectorWords.TAKE;
                Check.due("change kind " + kind + " of length " + m, x.change(0, kind, 1, takes ? 256 - m : 1),
                    takes ? 256 - m : m);
                Check.due("its length", x.length(0), takes ? 256 - m : m);
            }
            for (int k = 1; m * k <= 256 && k <= 256; k++) {
                Subject x = Subject.with("1111", Edges.mixed(m));
                Check.due("STRETCH of length " + m + " by " + k, x.change(0, BitVectorWords.STRETCH, 1, k), m * k);
                Check.due("its length", x.length(0), m * k);
            }
        }
    }

    public static void main(String[] args) {
        Check.sentence("NOT: length m, element i is not x[i]", ChangeTest::not);
        Check.sentence("REVERSE: length m, element i is x[m - 1 - i]", ChangeTest::reverse);
        Check.sentence("ROTATE: length m, element i is x[(i + k) mod m]", ChangeTest::rotate);
        Check.sentence("ROTATE: the remainder counted as 0 to m - 1 also for negative i + k",
            ChangeTest::rotateNegative);
        Check.sentence("ROTATE: x[(i + k) mod m], k at the ends of the int range", ChangeTest::rotateFar);
        Check.sentence("ROTATE: (m 0: length 0)", ChangeTest::rotateEmpty);
        Check.sentence("SHIFT: element i is x[i + k] if i + k is in 0 to m - 1, else false", ChangeTest::shift);
        Check.sentence("SHIFT: i + k (as a whole number, without wrapping)", ChangeTest::shiftDoesNotWrap);
        Check.sentence("TAKE: length k, element i is x[i] if i < m, else false", ChangeTest::take);
        Check.sentence("TAKE: else false, where elements were cut off", ChangeTest::takeOfCutOffElements);
        Check.sentence("TAKE: k not in 0 to 256: BAD_LENGTH", ChangeTest::takeBadLength);
        Check.sentence("STRETCH: length m * k, element i is x[i / k]", ChangeTest::stretch);
        Check.sentence("STRETCH: k not in 1 to 256: BAD_LENGTH", ChangeTest::stretchBadFactor);
        Check.sentence("STRETCH: m * k above 256: BAD_LENGTH", ChangeTest::stretchTooLong);
        Check.sentence("SCAN_AND: element i is true if x[0] to x[i] are all true", ChangeTest::scanAnd);
        Check.sentence("SCAN_OR: element i is true if at least one of x[0] to x[i] is true", ChangeTest::scanOr);
        Check.sentence("SCAN_XOR: element i is true if an odd number of x[0] to x[i] are true", ChangeTest::scanXor);
        Check.sentence("change: Kinds that don't name k don't look at it", ChangeTest::doNotLookAtK);
        Check.sentence("change: BAD_VECTOR", ChangeTest::badVector);
        Check.sentence("change: kind not in 0 to 8: BAD_KIND", ChangeTest::badKind);
        Check.sentence("change: BAD_KIND; then BAD_LENGTH as said", ChangeTest::kindBeforeLength);
        Check.sentence("change: Else answers the new length of 'to'", ChangeTest::answersNewLength);
        Check.end();
    }
}

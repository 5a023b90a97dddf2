/** Promise 4. */
public final class ChangeTest {
    private static final int MIN = Integer.MIN_VALUE;
    private static final int MAX = Integer.MAX_VALUE;

    /** The change into another vector and into the vector itself; nothing else may become different. */
    private static void gives(int kind, String from, int k, String want) {
        String what = "change kind " + kind + " of " + from + " by " + k;
        Subject x = Subject.with("1", from, "1101");
        Check.due(what, x.change(2, kind, 1, k), want.length());
        Check.due(what + ", the new vector", x.show(2), want);
        Subject y = Subject.with("", from, "1");
        Check.due(what + " onto itself", y.change(1, kind, 1, k), want.length());
        Check.due(what + " onto itself, the new vector", y.show(1), want);
        if (from.length() < 64) {
            Check.due(what + ", the operand", x.show(1), from);
            Check.due(what + ", others", x.show(0) + x.show(3) + y.show(0) + y.show(2), "11");
        }
    }

    private static void kindsWithoutNumber() {
        for (int k : new int[] {0, 1, -1, 257, MIN, MAX}) {
            gives(BitVectorWords.NOT, "1101000", k, "0010111");
            gives(BitVectorWords.REVERSE, "1101000", k, "0001011");
            gives(BitVectorWords.SCAN_AND, "1101000", k, "1100000");
            gives(BitVectorWords.SCAN_OR, "0010010", k, "0011111");
            gives(BitVectorWords.SCAN_XOR, "1101001", k, "1001110");
        }
        for (int kind : new int[] {BitVectorWords.NOT, BitVectorWords.REVERSE, BitVectorWords.ROTATE,
            BitVectorWords.SHIFT, BitVectorWords.SCAN_AND, BitVectorWords.SCAN_OR, BitVectorWords.SCAN_XOR}) {
            for (int k : new int[] {0, 1, -1, MIN, MAX}) {
                gives(kind, "", k, "");
            }
        }
        gives(BitVectorWords.REVERSE, "0001", 0, "1000");
        gives(BitVectorWords.SCAN_AND, "0111", 0, "0000");
        gives(BitVectorWords.SCAN_AND, "1111", 0, "1111");
        gives(BitVectorWords.SCAN_OR, "0000", 0, "0000");
        gives(BitVectorWords.NOT, "0".repeat(256), 0, "1".repeat(256));
        gives(BitVectorWords.REVERSE, "1".repeat(100) + "0".repeat(156), 0, "0".repeat(156) + "1".repeat(100));
        gives(BitVectorWords.SCAN_AND, "1".repeat(256), 0, "1".repeat(256));
        gives(BitVectorWords.SCAN_OR, "1" + "0".repeat(255), 0, "1".repeat(256));
        gives(BitVectorWords.SCAN_XOR, "1".repeat(256), 0, "10".repeat(128));
    }

    private static void rotate() {
        gives(BitVectorWords.ROTATE, "11010", 0, "11010");
        gives(BitVectorWords.ROTATE, "11010", 1, "10101");
        gives(BitVectorWords.ROTATE, "11010", 2, "01011");
        gives(BitVectorWords.ROTATE, "11010", -1, "01101");
        gives(BitVectorWords.ROTATE, "11010", 5, "11010");
        gives(BitVectorWords.ROTATE, "11010", -5, "11010");
        gives(BitVectorWords.ROTATE, "11010", 12, "01011");
        gives(BitVectorWords.ROTATE, "11010", -11, "01101");
        // 2147483647 is 2 more than a multiple of 5; -2147483648 is 2 more than a multiple of 5, too.
        gives(BitVectorWords.ROTATE, "11010", MAX, "01011");
        gives(BitVectorWords.ROTATE, "11010", MIN, "01011");
        // 2147483647 is 1 more than a multiple of 3; -2147483648 is 1 more than a multiple of 3, too.
        gives(BitVectorWords.ROTATE, "100", MAX, "001");
        gives(BitVectorWords.ROTATE, "100", MIN, "001");
        gives(BitVectorWords.ROTATE, "1", MAX, "1");
        gives(BitVectorWords.ROTATE, "1".repeat(100) + "0".repeat(156), 100, "0".repeat(156) + "1".repeat(100));
        gives(BitVectorWords.ROTATE, "1".repeat(100) + "0".repeat(156), -300, "0".repeat(44) + "1".repeat(100)
            + "0".repeat(112));
    }

    private static void shift() {
        gives(BitVectorWords.SHIFT, "11011", 0, "11011");
        gives(BitVectorWords.SHIFT, "11011", 1, "10110");
        gives(BitVectorWords.SHIFT, "11011", 4, "10000");
        gives(BitVectorWords.SHIFT, "11011", -1, "01101");
        gives(BitVectorWords.SHIFT, "11011", -4, "00001");
        for (int k : new int[] {5, 6, 64, 256, MAX, MAX - 1, MAX - 4, -5, -6, -64, -256, MIN, MIN + 1}) {
            gives(BitVectorWords.SHIFT, "11111", k, "00000");
        }
        gives(BitVectorWords.SHIFT, "1".repeat(256), 255, "1" + "0".repeat(255));
        gives(BitVectorWords.SHIFT, "1".repeat(256), -255, "0".repeat(255) + "1");
        gives(BitVectorWords.SHIFT, "1".repeat(256), MAX, "0".repeat(256));
        gives(BitVectorWords.SHIFT, "1".repeat(256), MIN, "0".repeat(256));
    }

    private static void take() {
        gives(BitVectorWords.TAKE, "11011", 0, "");
        gives(BitVectorWords.TAKE, "11011", 4, "1101");
        gives(BitVectorWords.TAKE, "11011", 5, "11011");
        gives(BitVectorWords.TAKE, "11011", 8, "11011000");
        gives(BitVectorWords.TAKE, "", 3, "000");
        gives(BitVectorWords.TAKE, "11011", 256, "11011" + "0".repeat(251));
        gives(BitVectorWords.TAKE, "1".repeat(256), 256, "1".repeat(256));
        Subject x = Subject.with("1111");
        x.change(0, BitVectorWords.TAKE, 0, 1);
        x.change(0, BitVectorWords.TAKE, 0, 4);
        Check.due("elements that were cut off do not come back", x.show(0), "1000");
    }

    private static void stretch() {
        gives(BitVectorWords.STRETCH, "1101", 1, "1101");
        gives(BitVectorWords.STRETCH, "1101", 3, "111111000111");
        gives(BitVectorWords.STRETCH, "", 1, "");
        gives(BitVectorWords.STRETCH, "", 256, "");
        gives(BitVectorWords.STRETCH, "1", 256, "1".repeat(256));
        gives(BitVectorWords.STRETCH, "10", 128, "1".repeat(128) + "0".repeat(128));
        gives(BitVectorWords.STRETCH, "10".repeat(128), 1, "10".repeat(128));
        gives(BitVectorWords.STRETCH, "101", 85, "1".repeat(85) + "0".repeat(85) + "1".repeat(85));
    }

    private static void refuses(int to, int kind, int from, int k, int want) {
        Subject x = Subject.with("10", "101", "", "1", "0110", "");
        Check.refused("change " + to + " " + kind + " " + from + " " + k, x, () -> x.change(to, kind, from, k), want);
    }

    private static void refusals() {
        for (int vector : Subject.NOT_VECTORS) {
            for (int kind = -1; kind <= 9; kind++) {
                refuses(vector, kind, 1, -1, BitVectorWords.BAD_VECTOR);
                refuses(1, kind, vector, -1, BitVectorWords.BAD_VECTOR);
            }
        }
        for (int kind : new int[] {-1, 9, 10, MIN, MAX}) {
            refuses(0, kind, 1, 1, BitVectorWords.BAD_KIND);
            refuses(0, kind, 1, -1, BitVectorWords.BAD_KIND);
        }
        for (int k : new int[] {-1, 257, MIN, MAX}) {
            refuses(0, BitVectorWords.TAKE, 1, k, BitVectorWords.BAD_LENGTH);
            refuses(0, BitVectorWords.STRETCH, 1, k, BitVectorWords.BAD_LENGTH);
            refuses(0, BitVectorWords.STRETCH, 2, k, BitVectorWords.BAD_LENGTH);
        }
        refuses(0, BitVectorWords.STRETCH, 1, 0, BitVectorWords.BAD_LENGTH);
        refuses(0, BitVectorWords.STRETCH, 2, 0, BitVectorWords.BAD_LENGTH);
        refuses(0, BitVectorWords.STRETCH, 1, 86, BitVectorWords.BAD_LENGTH);
        refuses(1, BitVectorWords.STRETCH, 1, 256, BitVectorWords.BAD_LENGTH);
        // 3 * 1431655766 is 2 in wrapped ints.
        refuses(1, BitVectorWords.STRETCH, 1, 1431655766, BitVectorWords.BAD_LENGTH);
    }

    public static void main(String[] args) {
        kindsWithoutNumber();
        rotate();
        shift();
        take();
        stretch();
        refusals();
        Check.end();
    }
}

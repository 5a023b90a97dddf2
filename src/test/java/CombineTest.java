/** Promise 5. */
public final class CombineTest {
    private static void gives(int kind, String a, String b, String want) {
        String what = "combine kind " + kind + " of " + a + " and " + b;
        for (int to = 1; to <= 3; to++) {
            Subject x = Subject.with("1", a, b, "1101", "01");
            Check.due(what + " to " + to, x.combine(to, kind, 1, 2), want.length());
            Check.due(what + " to " + to + ", the new vector", x.show(to), want);
            if (a.length() + b.length() + want.length() < 200) {
                Check.due(what + ", operand a", to == 1 ? a : x.show(1), a);
                Check.due(what + ", operand b", to == 2 ? b : x.show(2), b);
                Check.due(what + ", others", x.show(0) + x.show(4) + x.show(5), "101");
            }
        }
    }

    private static void givesOnItself(int kind, String a, String want) {
        String what = "combine kind " + kind + " of " + a + " and itself";
        Subject x = Subject.with("1", a);
        Check.due(what, x.combine(1, kind, 1, 1), want.length());
        Check.due(what + ", the new vector", x.show(1), want);
    }

    private static void bitwise() {
        gives(BitVectorWords.AND, "00110", "01010", "00010");
        gives(BitVectorWords.OR, "00110", "01010", "01110");
        gives(BitVectorWords.XOR, "00110", "01010", "01100");
        gives(BitVectorWords.AND, "1".repeat(256), "01".repeat(128), "01".repeat(128));
        gives(BitVectorWords.OR, "10".repeat(128), "01".repeat(128), "1".repeat(256));
        gives(BitVectorWords.XOR, "1".repeat(256), "01".repeat(128), "10".repeat(128));
        givesOnItself(BitVectorWords.AND, "0110", "0110");
        givesOnItself(BitVectorWords.OR, "0110", "0110");
        givesOnItself(BitVectorWords.XOR, "0110", "0000");
    }

    private static void plus() {
        gives(BitVectorWords.PLUS, "1100", "1000", "0010");
        gives(BitVectorWords.PLUS, "1010", "1100", "0001");
        gives(BitVectorWords.PLUS, "1110", "1110", "0111");
        gives(BitVectorWords.PLUS, "1111", "1000", "0000");
        gives(BitVectorWords.PLUS, "1111", "1111", "0111");
        gives(BitVectorWords.PLUS, "1", "1", "0");
        gives(BitVectorWords.PLUS, "1".repeat(256), "1" + "0".repeat(255), "0".repeat(256));
        gives(BitVectorWords.PLUS, "1".repeat(64) + "0".repeat(36), "1" + "0".repeat(99), "0".repeat(64) + "1"
            + "0".repeat(35));
        givesOnItself(BitVectorWords.PLUS, "1011", "0101");
    }

    private static void join() {
        gives(BitVectorWords.JOIN, "110", "01", "11001");
        gives(BitVectorWords.JOIN, "", "01", "01");
        gives(BitVectorWords.JOIN, "110", "", "110");
        gives(BitVectorWords.JOIN, "1".repeat(256), "", "1".repeat(256));
        gives(BitVectorWords.JOIN, "", "1".repeat(256), "1".repeat(256));
        gives(BitVectorWords.JOIN, "0".repeat(33), "1".repeat(223), "0".repeat(33) + "1".repeat(223));
        givesOnItself(BitVectorWords.JOIN, "110", "110110");
    }

    private static void compressAndExpand() {
        gives(BitVectorWords.COMPRESS, "101101", "110010", "1000");
        gives(BitVectorWords.COMPRESS, "0000", "1111", "");
        gives(BitVectorWords.COMPRESS, "1111", "1010", "1010");
        gives(BitVectorWords.COMPRESS, "1".repeat(256), "10".repeat(128), "10".repeat(128));
        givesOnItself(BitVectorWords.COMPRESS, "0110", "11");
        gives(BitVectorWords.EXPAND, "101101", "1101", "101001");
        gives(BitVectorWords.EXPAND, "0000", "", "0000");
        gives(BitVectorWords.EXPAND, "1111", "1010", "1010");
        gives(BitVectorWords.EXPAND, "01".repeat(128), "1".repeat(128), "01".repeat(128));
        gives(BitVectorWords.EXPAND, "1".repeat(256), "10".repeat(128), "10".repeat(128));
        givesOnItself(BitVectorWords.EXPAND, "111", "111");
    }

    private static void mesh() {
        gives(BitVectorWords.MESH, "110", "010", "101100");
        gives(BitVectorWords.MESH, "1".repeat(128), "0".repeat(128), "10".repeat(128));
        givesOnItself(BitVectorWords.MESH, "101", "110011");
    }

    private static void emptyVectors() {
        for (int kind = BitVectorWords.AND; kind <= BitVectorWords.MESH; kind++) {
            gives(kind, "", "", "");
            givesOnItself(kind, "", "");
        }
    }

    private static void refuses(String a, String b, int kind) {
        for (int to = 1; to <= 3; to++) {
            int target = to;
            Subject x = Subject.with("1", a, b, "01");
            Check.refused("combine kind " + kind + " of " + a + " and " + b + " to " + to, x,
                () -> x.combine(target, kind, 1, 2), BitVectorWords.BAD_LENGTH);
        }
    }

    private static void refusesLong(int kind, int m, int n) {
        Subject x = new Subject();
        x.make(1, m);
        x.make(2, n);
        x.make(3, 7);
        x.put(3, 0, 7, 5);
        Check.due("combine kind " + kind + " of lengths " + m + " and " + n, x.combine(3, kind, 1, 2),
            BitVectorWords.BAD_LENGTH);
        Check.due("the vector", x.show(3), "1010000");
    }

    private static void wrongLengths() {
        for (int kind : new int[] {BitVectorWords.AND, BitVectorWords.OR, BitVectorWords.XOR, BitVectorWords.PLUS,
            BitVectorWords.COMPRESS, BitVectorWords.MESH}) {
            refuses("110", "11", kind);
            refuses("11", "110", kind);
            refuses("", "0", kind);
            refuses("0", "", kind);
        }
        refuses("1101", "11", BitVectorWords.EXPAND);
        refuses("1101", "1111", BitVectorWords.EXPAND);
        refuses("0000", "1", BitVectorWords.EXPAND);
        refuses("", "1", BitVectorWords.EXPAND);
        refuses("1", "", BitVectorWords.EXPAND);
        refusesLong(BitVectorWords.JOIN, 256, 1);
        refusesLong(BitVectorWords.JOIN, 1, 256);
        refusesLong(BitVectorWords.JOIN, 128, 129);
        refusesLong(BitVectorWords.JOIN, 256, 256);
        refusesLong(BitVectorWords.MESH, 129, 129);
        refusesLong(BitVectorWords.MESH, 256, 256);
        refusesLong(BitVectorWords.MESH, 127, 129);
    }

    private static void refuses(int to, int kind, int a, int b, int want) {
        Subject x = Subject.with("10", "101", "11", "1", "0110", "");
        Check.refused("combine " + to + " " + kind + " " + a + " " + b, x, () -> x.combine(to, kind, a, b), want);
    }

    private static void wrongVectorsAndKinds() {
        for (int vector : Subject.NOT_VECTORS) {
            for (int kind = -1; kind <= 8; kind++) {
                refuses(vector, kind, 0, 1, BitVectorWords.BAD_VECTOR);
                refuses(0, kind, vector, 1, BitVectorWords.BAD_VECTOR);
                refuses(0, kind, 1, vector, BitVectorWords.BAD_VECTOR);
            }
        }
        for (int kind : new int[] {-1, 8, 9, Integer.MIN_VALUE, Integer.MAX_VALUE}) {
            refuses(0, kind, 0, 2, BitVectorWords.BAD_KIND);
            refuses(0, kind, 0, 1, BitVectorWords.BAD_KIND);
        }
    }

    public static void main(String[] args) {
        bitwise();
        plus();
        join();
        compressAndExpand();
        mesh();
        emptyVectors();
        wrongLengths();
        wrongVectorsAndKinds();
        Check.end();
    }
}

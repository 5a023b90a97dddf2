/** Promise 5. */
public final class CombineTest {
    private static final int[] KINDS_OF_EQUAL_LENGTHS = {BitVectorWords.AND, BitVectorWords.OR, BitVectorWords.XOR,
        BitVectorWords.PLUS, BitVectorWords.COMPRESS, BitVectorWords.MESH};

    /** The combination into each of its operands, into a longer and into a shorter vector. */
    private static void gives(int kind, String a, String b, String want) {
        Scene x = new Scene("1", a, b, Edges.ALL_TRUE, "0110", "");
        for (int to : new int[] {1, 2, 3, 5}) {
            x.becomes(Call.combine(to, kind, 1, 2), want.length(), to, want);
        }
    }

    private static void givesWithItself(int kind, String a, String want) {
        Scene x = new Scene("1", a, "0110");
        x.becomes(Call.combine(1, kind, 1, 1), want.length(), 1, want);
        x.becomes(Call.combine(2, kind, 1, 1), want.length(), 2, want);
    }

    private static void refuses(int answer, int kind, String a, String b) {
        Scene x = new Scene("1", a, b, Edges.ALL_TRUE, "0110", "");
        for (int to : new int[] {1, 2, 3, 5}) {
            x.answers(Call.combine(to, kind, 1, 2), answer);
        }
    }

    private static void refusesUnequal(int kind) {
        for (int m = 0; m < 256; m++) {
            refuses(BitVectorWords.BAD_LENGTH, kind, Edges.mixed(m), Edges.mixed(m + 1));
            refuses(BitVectorWords.BAD_LENGTH, kind, Edges.mixed(m + 1), Edges.mixed(m));
        }
        refuses(BitVectorWords.BAD_LENGTH, kind, "", Edges.ALL_TRUE);
        refuses(BitVectorWords.BAD_LENGTH, kind, Edges.ALL_TRUE, "");
        refuses(BitVectorWords.BAD_LENGTH, kind, "", "0");
        refuses(BitVectorWords.BAD_LENGTH, kind, "0", "");
    }

    private static void and() {
        gives(BitVectorWords.AND, "00110", "01010", "00010");
        gives(BitVectorWords.AND, "", "", "");
        gives(BitVectorWords.AND, "1", "1", "1");
        gives(BitVectorWords.AND, Edges.ALL_TRUE, "01".repeat(128), "01".repeat(128));
        gives(BitVectorWords.AND, Edges.ALL_TRUE, Edges.only(255, 256), Edges.only(255, 256));
        givesWithItself(BitVectorWords.AND, "0110", "0110");
    }

    private static void or() {
        gives(BitVectorWords.OR, "00110", "01010", "01110");
        gives(BitVectorWords.OR, "", "", "");
        gives(BitVectorWords.OR, "0", "0", "0");
        gives(BitVectorWords.OR, "10".repeat(128), "01".repeat(128), Edges.ALL_TRUE);
        gives(BitVectorWords.OR, Edges.ALL_FALSE, Edges.only(255, 256), Edges.only(255, 256));
        givesWithItself(BitVectorWords.OR, "0110", "0110");
    }

    private static void xor() {
        gives(BitVectorWords.XOR, "00110", "01010", "01100");
        gives(BitVectorWords.XOR, "", "", "");
        gives(BitVectorWords.XOR, "1", "1", "0");
        gives(BitVectorWords.XOR, Edges.ALL_TRUE, "01".repeat(128), "10".repeat(128));
        gives(BitVectorWords.XOR, Edges.ALL_TRUE, Edges.only(255, 256), Edges.without(255, 256));
        givesWithItself(BitVectorWords.XOR, "0110", "0000");
    }

    private static void bitwiseUnequal() {
        refusesUnequal(BitVectorWords.AND);
        refusesUnequal(BitVectorWords.OR);
        refusesUnequal(BitVectorWords.XOR);
    }

    private static void plus() {
        gives(BitVectorWords.PLUS, "1100", "1000", "0010");
        gives(BitVectorWords.PLUS, "1010", "1100", "0001");
        gives(BitVectorWords.PLUS, "1110", "1110", "0111");
        gives(BitVectorWords.PLUS, "0", "0", "0");
        gives(BitVectorWords.PLUS, "1", "0", "1");
        gives(BitVectorWords.PLUS, "", "", "");
        gives(BitVectorWords.PLUS, Edges.without(255, 256), Edges.only(0, 256), Edges.only(255, 256));
        gives(BitVectorWords.PLUS, Edges.ALL_FALSE, Edges.ALL_TRUE, Edges.ALL_TRUE);
        for (int m = 1; m < 256; m++) {
            gives(BitVectorWords.PLUS, "1".repeat(m) + "0", Edges.only(0, m + 1), Edges.only(m, m + 1));
        }
        givesWithItself(BitVectorWords.PLUS, "1010", "0101");
    }

    private static void plusLosesCarry() {
        gives(BitVectorWords.PLUS, "1", "1", "0");
        gives(BitVectorWords.PLUS, "1111", "1000", "0000");
        gives(BitVectorWords.PLUS, "0001", "0001", "0000");
        gives(BitVectorWords.PLUS, "1111", "1111", "0111");
        gives(BitVectorWords.PLUS, Edges.ALL_TRUE, Edges.only(0, 256), Edges.ALL_FALSE);
        gives(BitVectorWords.PLUS, Edges.only(255, 256), Edges.only(255, 256), Edges.ALL_FALSE);
        gives(BitVectorWords.PLUS, Edges.ALL_TRUE, Edges.ALL_TRUE, Edges.without(0, 256));
        givesWithItself(BitVectorWords.PLUS, Edges.ALL_TRUE, Edges.without(0, 256));
        Subject x = Subject.with("1111", "1000");
        x.combine(0, BitVectorWords.PLUS, 0, 1);
        x.change(0, BitVectorWords.TAKE, 0, 8);
        Check.due("the carry is not found behind the vector either", x.show(0), "00000000");
        x = Subject.with("11", "10", "00");
        x.combine(0, BitVectorWords.PLUS, 0, 1);
        x.combine(0, BitVectorWords.PLUS, 2, 2);
        Check.due("the carry is not found in the next sum either", x.show(0), "00");
    }

    private static void join() {
        gives(BitVectorWords.JOIN, "110", "01", "11001");
        gives(BitVectorWords.JOIN, "", "01", "01");
        gives(BitVectorWords.JOIN, "110", "", "110");
        gives(BitVectorWords.JOIN, "", "", "");
        gives(BitVectorWords.JOIN, Edges.ALL_TRUE, "", Edges.ALL_TRUE);
        gives(BitVectorWords.JOIN, "", Edges.ALL_TRUE, Edges.ALL_TRUE);
        givesWithItself(BitVectorWords.JOIN, "110", "110110");
        givesWithItself(BitVectorWords.JOIN, Edges.mixed(128), Edges.mixed(128) + Edges.mixed(128));
    }

    private static void joinTooLong() {
        for (int m = 0; m <= 256; m++) {
            String a = Edges.mixed(m);
            gives(BitVectorWords.JOIN, a, "1".repeat(256 - m), a + "1".repeat(256 - m));
            if (m > 0) {
                refuses(BitVectorWords.BAD_LENGTH, BitVectorWords.JOIN, a, "1".repeat(257 - m));
            }
            if (m > 1) {
                refuses(BitVectorWords.BAD_LENGTH, BitVectorWords.JOIN, a, Edges.ALL_TRUE);
            }
        }
        Scene.sixOf("1".repeat(129)).answers(Call.combine(0, BitVectorWords.JOIN, 0, 0), BitVectorWords.BAD_LENGTH);
        Scene.sixOf(Edges.ALL_TRUE).answers(Call.combine(0, BitVectorWords.JOIN, 0, 0), BitVectorWords.BAD_LENGTH);
    }

    private static void compress() {
        gives(BitVectorWords.COMPRESS, "101101", "110010", "1000");
        gives(BitVectorWords.COMPRESS, "0000", "1111", "");
        gives(BitVectorWords.COMPRESS, "1111", "1010", "1010");
        gives(BitVectorWords.COMPRESS, "1000", "1000", "1");
        gives(BitVectorWords.COMPRESS, "0001", "0001", "1");
        gives(BitVectorWords.COMPRESS, "", "", "");
        gives(BitVectorWords.COMPRESS, "1", "0", "0");
        gives(BitVectorWords.COMPRESS, "0", "1", "");
        gives(BitVectorWords.COMPRESS, Edges.ALL_TRUE, "10".repeat(128), "10".repeat(128));
        gives(BitVectorWords.COMPRESS, Edges.ALL_FALSE, Edges.ALL_TRUE, "");
        gives(BitVectorWords.COMPRESS, Edges.only(255, 256), Edges.only(255, 256), "1");
        gives(BitVectorWords.COMPRESS, Edges.without(0, 256), Edges.only(255, 256), Edges.only(254, 255));
        givesWithItself(BitVectorWords.COMPRESS, "0110", "11");
    }

    private static void expand() {
        gives(BitVectorWords.EXPAND, "101101", "1101", "101001");
        gives(BitVectorWords.EXPAND, "0000", "", "0000");
        gives(BitVectorWords.EXPAND, "1111", "1010", "1010");
        gives(BitVectorWords.EXPAND, "1000", "1", "1000");
        gives(BitVectorWords.EXPAND, "0001", "1", "0001");
        gives(BitVectorWords.EXPAND, "0001", "0", "0000");
        gives(BitVectorWords.EXPAND, "", "", "");
        gives(BitVectorWords.EXPAND, Edges.ALL_TRUE, "10".repeat(128), "10".repeat(128));
        gives(BitVectorWords.EXPAND, Edges.ALL_FALSE, "", Edges.ALL_FALSE);
        gives(BitVectorWords.EXPAND, Edges.only(255, 256), "1", Edges.only(255, 256));
        gives(BitVectorWords.EXPAND, Edges.without(0, 256), "1".repeat(255), Edges.without(0, 256));
        gives(BitVectorWords.EXPAND, "01".repeat(128), "1".repeat(128), "01".repeat(128));
        givesWithItself(BitVectorWords.EXPAND, "111", "111");
        givesWithItself(BitVectorWords.EXPAND, Edges.ALL_TRUE, Edges.ALL_TRUE);
    }

    private static void expandBadLength() {
        for (int trues = 0; trues <= 256; trues++) {
            String a = "1".repeat(trues) + "0".repeat(256 - trues);
            gives(BitVectorWords.EXPAND, a, "1".repeat(trues), a);
            if (trues > 0) {
                refuses(BitVectorWords.BAD_LENGTH, BitVectorWords.EXPAND, a, "1".repeat(trues - 1));
            }
            if (trues < 256) {
                refuses(BitVectorWords.BAD_LENGTH, BitVectorWords.EXPAND, a, "1".repeat(trues + 1));
            }
        }
        refuses(BitVectorWords.BAD_LENGTH, BitVectorWords.EXPAND, "1101", "1111");
        refuses(BitVectorWords.BAD_LENGTH, BitVectorWords.EXPAND, "0000", "1");
        refuses(BitVectorWords.BAD_LENGTH, BitVectorWords.EXPAND, "", "1");
        refuses(BitVectorWords.BAD_LENGTH, BitVectorWords.EXPAND, "1", "");
        refuses(BitVectorWords.BAD_LENGTH, BitVectorWords.EXPAND, "", Edges.ALL_TRUE);
        Scene.sixOf("110").answers(Call.combine(0, BitVectorWords.EXPAND, 0, 0), BitVectorWords.BAD_LENGTH);
    }

    private static void mesh() {
        gives(BitVectorWords.MESH, "110", "010", "101100");
        gives(BitVectorWords.MESH, "1", "0", "10");
        gives(BitVectorWords.MESH, "", "", "");
        gives(BitVectorWords.MESH, "1".repeat(127), "0".repeat(127), "10".repeat(127));
        gives(BitVectorWords.MESH, "0".repeat(128), "1".repeat(128), "01".repeat(128));
        gives(BitVectorWords.MESH, Edges.only(0, 128), Edges.only(127, 128), "1" + "0".repeat(254) + "1");
        givesWithItself(BitVectorWords.MESH, "101", "110011");
    }

    private static void meshTooLong() {
        for (int m = 129; m <= 256; m++) {
            refuses(BitVectorWords.BAD_LENGTH, BitVectorWords.MESH, Edges.mixed(m), Edges.mixed(m));
            Scene.sixOf(Edges.mixed(m)).answers(Call.combine(0, BitVectorWords.MESH, 0, 0), BitVectorWords.BAD_LENGTH);
        }
        givesWithItself(BitVectorWords.MESH, "1".repeat(128), Edges.ALL_TRUE);
    }

    private static void meshUnequal() {
        refusesUnequal(BitVectorWords.MESH);
        refuses(BitVectorWords.BAD_LENGTH, BitVectorWords.MESH, "1".repeat(127), "1".repeat(129));
        refuses(BitVectorWords.BAD_LENGTH, BitVectorWords.MESH, "1".repeat(129), "1".repeat(127));
    }

    private static void badVector() {
        Scene x = new Scene("10", "101", "11", "", "0110", Edges.ALL_TRUE);
        for (int bad : Edges.NOT_VECTORS) {
            for (int kind = -1; kind <= 8; kind++) {
                for (int fit : new int[] {1, 2, 5}) {
                    x.answers(Call.combine(bad, kind, 0, fit), BitVectorWords.BAD_VECTOR);
                    x.answers(Call.combine(0, kind, bad, fit), BitVectorWords.BAD_VECTOR);
                    x.answers(Call.combine(0, kind, fit, bad), BitVectorWords.BAD_VECTOR);
                }
            }
        }
    }

    private static void badKind() {
        for (int kind : Edges.outside(0, 7)) {
            for (String both : new String[] {"", "110", Edges.mixed(128), Edges.ALL_TRUE}) {
                refuses(BitVectorWords.BAD_KIND, kind, both, both);
            }
        }
        gives(0, "110", "011", "010");
        gives(7, "110", "011", "101101");
    }

    private static void kindBeforeLength() {
        for (int kind : Edges.outside(0, 7)) {
            refuses(BitVectorWords.BAD_KIND, kind, "110", "11");
            refuses(BitVectorWords.BAD_KIND, kind, "", "1");
            refuses(BitVectorWords.BAD_KIND, kind, Edges.ALL_TRUE, "1");
            refuses(BitVectorWords.BAD_KIND, kind, "1", Edges.ALL_TRUE);
        }
    }

    private static void answersNewLength() {
        for (int m : Edges.LENGTHS) {
            for (int kind : KINDS_OF_EQUAL_LENGTHS) {
                int size = kind == BitVectorWords.MESH ? 2 * m : m;
                if (size <= 256) {
                    answers(kind, "1".repeat(m), "1".repeat(m), size);
                }
            }
            answers(BitVectorWords.COMPRESS, "0".repeat(m), "1".repeat(m), 0);
            answers(BitVectorWords.EXPAND, "0".repeat(m), "", m);
            answers(BitVectorWords.EXPAND, "1".repeat(m), "1".repeat(m), m);
            answers(BitVectorWords.JOIN, "1".repeat(m), "", m);
            answers(BitVectorWords.JOIN, "1".repeat(m), "1".repeat(256 - m), 256);
        }
    }

    private static void answers(int kind, String a, String b, int want) {
        for (String before : new String[] {"", "1111", Edges.ALL_TRUE}) {
            Subject x = Subject.with(before, a, b);
            String what = "combine kind " + kind + " of lengths " + a.length() + " and " + b.length();
            Check.due(what, x.combine(0, kind, 1, 2), want);
            Check.due(what + ", the length", x.length(0), want);
        }
    }

    public static void main(String[] args) {
        Check.sentence("AND: length m, element by element", CombineTest::and);
        Check.sentence("OR: length m, element by element", CombineTest::or);
        Check.sentence("XOR: length m, element by element", CombineTest::xor);
        Check.sentence("AND, OR, XOR: m and n differ: BAD_LENGTH", CombineTest::bitwiseUnequal);
        Check.sentence("PLUS: the sum of both as binary numbers, element 0 being the lowest digit: length m",
            CombineTest::plus);
        Check.sentence("PLUS: the carry out of the last element is lost", CombineTest::plusLosesCarry);
        Check.sentence("PLUS: m and n differ: BAD_LENGTH", () -> refusesUnequal(BitVectorWords.PLUS));
        Check.sentence("JOIN: x followed by y", CombineTest::join);
        Check.sentence("JOIN: m + n above 256: BAD_LENGTH", CombineTest::joinTooLong);
        Check.sentence("COMPRESS: the elements y[i] at the places i at which x[i] is true, in order",
            CombineTest::compress);
        Check.sentence("COMPRESS: m and n differ: BAD_LENGTH", () -> refusesUnequal(BitVectorWords.COMPRESS));
        Check.sentence("EXPAND: at the places at which x is true the elements of y in order, at the others false",
            CombineTest::expand);
        Check.sentence("EXPAND: n is not the number of true elements of x: BAD_LENGTH", CombineTest::expandBadLength);
        Check.sentence("MESH: x[0], y[0], x[1], y[1], ..", CombineTest::mesh);
        Check.sentence("MESH: m and n differ: BAD_LENGTH", CombineTest::meshUnequal);
        Check.sentence("MESH: m + n above 256: BAD_LENGTH", CombineTest::meshTooLong);
        Check.sentence("combine: BAD_VECTOR", CombineTest::badVector);
        Check.sentence("combine: kind not in 0 to 7: BAD_KIND", CombineTest::badKind);
        Check.sentence("combine: BAD_KIND; then BAD_LENGTH as said", CombineTest::kindBeforeLength);
        Check.sentence("combine: Else answers the new length of 'to'", CombineTest::answersNewLength);
        Check.end();
    }
}

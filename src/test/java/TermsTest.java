import java.util.ArrayList;
import java.util.List;

/** The document's parts 'What it is' and 'Terms'. */
public final class TermsTest {
    private static final int ALL_CHANGES = 9;
    private static final int ALL_COMBINATIONS = 8;

    private static void sixVectors() {
        Scene ones = Scene.sixOf("1");
        for (int v = 0; v < 6; v++) {
            ones.becomes(Call.make(v, 2), 2, v, "00");
            ones.becomes(Call.put(v, 0, 1, 0), 1, v, "0");
            ones.becomes(Call.change(v, BitVectorWords.NOT, v, 0), 1, v, "0");
            ones.becomes(Call.combine(v, BitVectorWords.JOIN, v, v), 2, v, "11");
            ones.answers(Call.length(v), 1);
            ones.answers(Call.get(v, 0), 1);
            ones.answers(Call.count(v, 0, 0), 1);
            ones.answers(Call.place(v, 0), 0);
            ones.answers(Call.findRun(v, 0, 1), 0);
        }
        Scene growing = new Scene("", "1", "01", "001", "0001", "00001");
        for (int v = 1; v < 6; v++) {
            growing.answers(Call.compare(v - 1, v), -1);
            growing.answers(Call.compare(v, v - 1), 1);
        }
    }

    private static void vectorsStandApart() {
        String[] six = {Edges.ALL_TRUE, Edges.ALL_FALSE, Edges.mixed(256), Edges.only(0, 256), Edges.only(255, 256),
            Edges.without(128, 256)};
        for (int v = 0; v < 6; v++) {
            new Scene(six).becomes(Call.make(v, 0), 0, v, "");
            new Scene(six).becomes(Call.make(v, 256), 256, v, Edges.ALL_FALSE);
            new Scene(six).becomes(Call.change(v, BitVectorWords.TAKE, v, 1), 1, v, six[v].substring(0, 1));
        }
    }

    private static void anyLength() {
        for (int length = 0; length <= 256; length++) {
            Subject x = new Subject();
            Check.due("make to " + length, x.make(5, length), length);
            Check.due("its length", x.length(5), length);
            x.change(5, BitVectorWords.NOT, 5, 0);
            Check.due("its elements of length " + length, x.show(5), "1".repeat(length));
        }
    }

    /** Makes calls that change nothing in the end until this many are left. */
    private static Subject used(int callsLeft) {
        Subject x = Subject.with("", "", "", "", "", Edges.ALL_TRUE);
        while (x.callsLeft() > callsLeft) {
            x.change(5, BitVectorWords.ROTATE, 5, 1);
        }
        return x;
    }

    private static void lastCallOfAll() {
        Subject counter = new Subject();
        counter.make(0, 256);
        counter.make(1, 256);
        counter.put(1, 0, 1, 1);
        while (counter.callsLeft() > 1) {
            counter.combine(0, BitVectorWords.PLUS, 0, 1);
        }
        // 1 was added 508 times, and 508 is 111111100 in binary.
        Check.due("call 512, count after 508 times PLUS", counter.count(0, 0, 255), 7);

        Check.due("call 512, make", used(1).make(5, 256), 256);
        Check.due("call 512, put", used(1).put(5, 224, 32, 0), 32);
        Check.due("call 512, change", used(1).change(0, BitVectorWords.STRETCH, 5, 1), 256);
        Check.due("call 512, combine", used(1).combine(5, BitVectorWords.COMPRESS, 5, 5), 256);
        Check.due("call 512, length", used(1).length(5), 256);
        Check.due("call 512, get", used(1).get(5, 255), true);
        Check.due("call 512, place", used(1).place(5, 255), 255);
        Check.due("call 512, findRun", used(1).findRun(5, 0, 256), 0);
        Check.due("call 512, compare", used(1).compare(5, 4), 1);
        Check.due("call 512, a refusal", used(1).make(6, 256), BitVectorWords.BAD_VECTOR);
        Subject x = used(2);
        x.change(5, BitVectorWords.NOT, 5, 0);
        Check.due("call 512 sees what call 511 changed", x.count(5, 0, 255), 0);
    }

    private static void indexFromZero() {
        for (int length : new int[] {1, 2, 32, 33, 256}) {
            for (int index : new int[] {0, length / 2, length - 1}) {
                Subject x = new Subject();
                x.make(0, length);
                x.put(0, index, 1, 1);
                String what = "element " + index + " of " + length;
                Check.due(what + ", show", x.show(0), Edges.only(index, length));
                Check.due(what + ", get below", x.get(0, index - 1), false);
                Check.due(what + ", get", x.get(0, index), true);
                Check.due(what + ", get above", x.get(0, index + 1), false);
                Check.due(what + ", count", x.count(0, index, index), 1);
                Check.due(what + ", place", x.place(0, 0), index);
                Check.due(what + ", findRun", x.findRun(0, 0, 1), index);
            }
        }
    }

    /** Vectors that fit each other for every kind: of equal length, as many elements true in 0 as 3 is long. */
    private static Scene fitting(int length) {
        String x = Edges.mixed(length);
        String y = "0110".repeat(64).substring(0, length);
        return new Scene(x, y, "101", "1".repeat((int) x.chars().filter(c -> c == '1').count()), "", "0");
    }

    private static void replacesOneVector() {
        for (int length : new int[] {0, 1, 33, 128, 256}) {
            for (int kind = 0; kind < ALL_CHANGES; kind++) {
                fitting(length).likeModel(Call.change(4, kind, 0, 1));
                fitting(length).likeModel(Call.change(2, kind, 0, 1));
            }
            for (int kind = 0; kind < ALL_COMBINATIONS; kind++) {
                fitting(length).likeModel(Call.combine(4, kind, 0, 1));
                fitting(length).likeModel(Call.combine(2, kind, 0, 3));
            }
        }
    }

    private static void changeOntoOperand() {
        for (int length : Edges.LENGTHS) {
            for (int kind = 0; kind < ALL_CHANGES; kind++) {
                for (int k : new int[] {-1, 1, 2, 100}) {
                    fitting(length).likeModel(Call.change(0, kind, 0, k));
                }
            }
        }
    }

    private static void combineOntoOperand() {
        for (int length : Edges.LENGTHS) {
            for (int kind = 0; kind < ALL_COMBINATIONS; kind++) {
                for (int b : new int[] {1, 3}) {
                    fitting(length).likeModel(Call.combine(0, kind, 0, b));
                    fitting(length).likeModel(Call.combine(b, kind, 0, b));
                }
            }
        }
    }

    private static void operandsTheSame() {
        for (int length : Edges.LENGTHS) {
            for (int kind = 0; kind < ALL_COMBINATIONS; kind++) {
                fitting(length).likeModel(Call.combine(2, kind, 0, 0));
                fitting(length).likeModel(Call.combine(0, kind, 0, 0));
                fitting(length).likeModel(Call.combine(3, kind, 3, 3));
            }
        }
    }

    private static void badVector() {
        Scene x = Scene.sixOf("11");
        for (int bad : Edges.NOT_VECTORS) {
            x.answers(Call.make(bad, 2), BitVectorWords.BAD_VECTOR);
            x.answers(Call.put(bad, 0, 1, 0), BitVectorWords.BAD_VECTOR);
            x.answers(Call.change(bad, BitVectorWords.NOT, 0, 0), BitVectorWords.BAD_VECTOR);
            x.answers(Call.change(0, BitVectorWords.NOT, bad, 0), BitVectorWords.BAD_VECTOR);
            x.answers(Call.change(bad, BitVectorWords.NOT, bad, 0), BitVectorWords.BAD_VECTOR);
            x.answers(Call.combine(bad, BitVectorWords.XOR, 0, 1), BitVectorWords.BAD_VECTOR);
            x.answers(Call.combine(0, BitVectorWords.XOR, bad, 1), BitVectorWords.BAD_VECTOR);
            x.answers(Call.combine(0, BitVectorWords.XOR, 1, bad), BitVectorWords.BAD_VECTOR);
            x.answers(Call.combine(bad, BitVectorWords.XOR, bad, bad), BitVectorWords.BAD_VECTOR);
            x.answers(Call.length(bad), BitVectorWords.BAD_VECTOR);
            x.answers(Call.count(bad, 0, 1), BitVectorWords.BAD_VECTOR);
            x.answers(Call.place(bad, 0), BitVectorWords.BAD_VECTOR);
            x.answers(Call.findRun(bad, 0, 1), BitVectorWords.BAD_VECTOR);
        }
    }

    private static void badVectorFirst() {
        Scene x = Scene.sixOf("11");
        for (int bad : Edges.NOT_VECTORS) {
            x.answers(Call.make(bad, 257), BitVectorWords.BAD_VECTOR);
            x.answers(Call.put(bad, 0, 33, 0), BitVectorWords.BAD_VECTOR);
            x.answers(Call.put(bad, -1, 1, 0), BitVectorWords.BAD_VECTOR);
            x.answers(Call.put(bad, -1, 0, 0), BitVectorWords.BAD_VECTOR);
            x.answers(Call.change(bad, 9, 0, 0), BitVectorWords.BAD_VECTOR);
            x.answers(Call.change(0, -1, bad, 0), BitVectorWords.BAD_VECTOR);
            x.answers(Call.change(bad, BitVectorWords.TAKE, 0, 257), BitVectorWords.BAD_VECTOR);
            x.answers(Call.change(0, BitVectorWords.STRETCH, bad, 0), BitVectorWords.BAD_VECTOR);
            x.answers(Call.change(bad, BitVectorWords.STRETCH, 0, 129), BitVectorWords.BAD_VECTOR);
            x.answers(Call.combine(bad, 8, 0, 1), BitVectorWords.BAD_VECTOR);
            x.answers(Call.combine(0, -1, bad, 1), BitVectorWords.BAD_VECTOR);
            x.answers(Call.combine(0, 8, 1, bad), BitVectorWords.BAD_VECTOR);
            x.answers(Call.count(bad, 1, 0), BitVectorWords.BAD_VECTOR);
            x.answers(Call.place(bad, -1), BitVectorWords.BAD_VECTOR);
            x.answers(Call.findRun(bad, 0, 0), BitVectorWords.BAD_VECTOR);
            x.answers(Call.findRun(bad, -1, 1), BitVectorWords.BAD_VECTOR);
            x.answers(Call.findRun(bad, -1, 257), BitVectorWords.BAD_VECTOR);
            Scene unequal = new Scene("11", "1");
            unequal.answers(Call.combine(bad, BitVectorWords.AND, 0, 1), BitVectorWords.BAD_VECTOR);
        }
    }

    private static List<Call> readings(int v) {
        List<Call> found = new ArrayList<>();
        found.add(Call.length(v));
        for (int n : Edges.around(256)) {
            found.add(Call.get(v, n));
            found.add(Call.count(v, n, 255));
            found.add(Call.count(v, 0, n));
            found.add(Call.place(v, n));
            found.add(Call.findRun(v, n, 1));
            found.add(Call.findRun(v, 0, n));
            found.add(Call.compare(v, n));
            found.add(Call.compare(n, v));
        }
        return found;
    }

    private static void readingChangesNothing() {
        Scene full = new Scene(Edges.ALL_TRUE, Edges.ALL_FALSE, Edges.mixed(256), "", "1", Edges.without(9, 255));
        for (int v = -1; v <= 6; v++) {
            for (Call call : readings(v)) {
                full.likeModel(call);
            }
        }
    }

    public static void main(String[] args) {
        Check.sentence("Six VECTORS (0 to 5)", TermsTest::sixVectors);
        Check.sentence("Six VECTORS of boolean elements, each standing apart from the others",
            TermsTest::vectorsStandApart);
        Check.sentence("each of any length from 0 to 256", TermsTest::anyLength);
        Check.sentence("An object is used for at most 512 calls after it has been made", TermsTest::lastCallOfAll);
        Check.sentence("Element i of a vector has index i, from 0", TermsTest::indexFromZero);
        Check.sentence("Every operation reads its operands first and then replaces one vector",
            TermsTest::replacesOneVector);
        Check.sentence("operands and result may be the same vector: change", TermsTest::changeOntoOperand);
        Check.sentence("operands and result may be the same vector: combine onto an operand",
            TermsTest::combineOntoOperand);
        Check.sentence("operands and result may be the same vector: combine with both operands the same",
            TermsTest::operandsTheSame);
        Check.sentence("A vector number not in 0 to 5 is BAD_VECTOR", TermsTest::badVector);
        Check.sentence("BAD_VECTOR is tested first in every call", TermsTest::badVectorFirst);
        Check.sentence("The calls below change nothing", TermsTest::readingChangesNothing);
        Check.end();
    }
}

import java.util.ArrayList;
import java.util.List;

/** "a refused call changes nothing": each refusal, among vectors of length 256, of length 0 and between. */
public final class RefusalTest {
    private static final Scene FULL = new Scene(Edges.ALL_TRUE, Edges.mixed(256), "1", "", "101", Edges.mixed(255));

    private static void refused(int answer, List<Call> calls) {
        for (Call call : calls) {
            FULL.answers(call, answer);
        }
    }

    private static void badVector() {
        List<Call> calls = new ArrayList<>();
        for (int bad : Edges.NOT_VECTORS) {
            for (int v = 0; v < 6; v++) {
                calls.add(Call.change(v, BitVectorWords.NOT, bad, 0));
                calls.add(Call.change(bad, BitVectorWords.NOT, v, 0));
                calls.add(Call.combine(v, BitVectorWords.XOR, v, bad));
                calls.add(Call.combine(v, BitVectorWords.XOR, bad, v));
                calls.add(Call.combine(bad, BitVectorWords.XOR, v, v));
            }
            calls.add(Call.make(bad, 0));
            calls.add(Call.make(bad, 256));
            calls.add(Call.put(bad, 0, 1, 0));
            calls.add(Call.put(bad, 0, 32, -1));
            calls.add(Call.length(bad));
            calls.add(Call.count(bad, 0, 255));
            calls.add(Call.place(bad, 0));
            calls.add(Call.findRun(bad, 0, 1));
        }
        refused(BitVectorWords.BAD_VECTOR, calls);
    }

    private static void badKind() {
        List<Call> calls = new ArrayList<>();
        for (int v = 0; v < 6; v++) {
            for (int kind : Edges.outside(BitVectorWords.NOT, BitVectorWords.SCAN_XOR)) {
                calls.add(Call.change(v, kind, 1, 0));
                calls.add(Call.change(v, kind, v, 1));
            }
            for (int kind : Edges.outside(BitVectorWords.AND, BitVectorWords.MESH)) {
                calls.add(Call.combine(v, kind, 0, 1));
                calls.add(Call.combine(v, kind, v, v));
            }
        }
        refused(BitVectorWords.BAD_KIND, calls);
    }

    private static void badLengthOfMakePutAndFindRun() {
        List<Call> calls = new ArrayList<>();
        for (int v = 0; v < 6; v++) {
            for (int length : Edges.outside(0, 256)) {
                calls.add(Call.make(v, length));
            }
            for (int n : Edges.outside(1, 32)) {
                calls.add(Call.put(v, 0, n, 0));
                calls.add(Call.put(v, 0, n, -1));
            }
            for (int run : Edges.outside(1, 256)) {
                calls.add(Call.findRun(v, 0, run));
            }
        }
        refused(BitVectorWords.BAD_LENGTH, calls);
    }

    private static void badLengthOfChange() {
        List<Call> calls = new ArrayList<>();
        for (int v = 0; v < 6; v++) {
            for (int k : Edges.outside(0, 256)) {
                calls.add(Call.change(v, BitVectorWords.TAKE, 0, k));
                calls.add(Call.change(v, BitVectorWords.TAKE, v, k));
            }
            for (int k : Edges.outside(1, 256)) {
                calls.add(Call.change(v, BitVectorWords.STRETCH, 2, k));
                calls.add(Call.change(v, BitVectorWords.STRETCH, v, k));
            }
            calls.add(Call.change(v, BitVectorWords.STRETCH, 0, 2));
            calls.add(Call.change(v, BitVectorWords.STRETCH, 4, 86));
            calls.add(Call.change(v, BitVectorWords.STRETCH, 5, 2));
        }
        refused(BitVectorWords.BAD_LENGTH, calls);
    }

    private static void badLengthOfCombine() {
        List<Call> calls = new ArrayList<>();
        for (int v = 0; v < 6; v++) {
            for (int kind : new int[] {BitVectorWords.AND, BitVectorWords.OR, BitVectorWords.XOR, BitVectorWords.PLUS,
                BitVectorWords.COMPRESS, BitVectorWords.MESH}) {
                calls.add(Call.combine(v, kind, 0, 5));
                calls.add(Call.combine(v, kind, 5, 0));
                calls.add(Call.combine(v, kind, 3, 2));
                calls.add(Call.combine(v, kind, 2, 3));
            }
            calls.add(Call.combine(v, BitVectorWords.JOIN, 0, 2));
            calls.add(Call.combine(v, BitVectorWords.JOIN, 2, 0));
            calls.add(Call.combine(v, BitVectorWords.MESH, 0, 1));
            calls.add(Call.combine(v, BitVectorWords.MESH, 5, 5));
            calls.add(Call.combine(v, BitVectorWords.EXPAND, 0, 5));
            calls.add(Call.combine(v, BitVectorWords.EXPAND, 4, 2));
            calls.add(Call.combine(v, BitVectorWords.EXPAND, 4, 4));
            calls.add(Call.combine(v, BitVectorWords.EXPAND, 3, 2));
            calls.add(Call.combine(v, BitVectorWords.EXPAND, 2, 3));
        }
        refused(BitVectorWords.BAD_LENGTH, calls);
    }

    private static void badIndex() {
        List<Call> calls = new ArrayList<>();
        for (int bits : new int[] {0, -1}) {
            for (int index : Edges.outside(0, 224)) {
                calls.add(Call.put(0, index, 32, bits));
            }
            for (int index : Edges.outside(0, 255)) {
                calls.add(Call.put(1, index, 1, bits));
            }
            for (int index : Edges.around(256)) {
                calls.add(Call.put(3, index, 1, bits));
                calls.add(Call.put(3, index, 32, bits));
                calls.add(Call.put(4, index, 4, bits));
            }
        }
        for (int from : Edges.outside(0, 255)) {
            calls.add(Call.findRun(0, from, 1));
        }
        for (int n : Edges.outside(0, 255)) {
            calls.add(Call.place(0, n));
        }
        refused(BitVectorWords.BAD_INDEX, calls);
    }

    public static void main(String[] args) {
        Check.sentence("a refused call changes nothing: BAD_VECTOR", RefusalTest::badVector);
        Check.sentence("a refused call changes nothing: BAD_KIND", RefusalTest::badKind);
        Check.sentence("a refused call changes nothing: BAD_LENGTH of make, put and findRun",
            RefusalTest::badLengthOfMakePutAndFindRun);
        Check.sentence("a refused call changes nothing: BAD_LENGTH of change", RefusalTest::badLengthOfChange);
        Check.sentence("a refused call changes nothing: BAD_LENGTH of combine", RefusalTest::badLengthOfCombine);
        Check.sentence("a refused call changes nothing: BAD_INDEX", RefusalTest::badIndex);
        Check.end();
    }
}

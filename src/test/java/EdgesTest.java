/**
 * Each call with its arguments at the edges, on vectors of the lengths at the edges, held against the model: what the
 * tests of single sentences pick out by hand is gone through as a whole here.
 */
public final class EdgesTest {
    private static final int[] SOME_LENGTHS = {0, 1, 31, 32, 33, 128, 129, 255, 256};

    private static void make() {
        for (int v = -1; v <= 6; v++) {
            for (int length : Edges.around(256)) {
                Scene.sixOf(Edges.mixed(100)).likeModel(Call.make(v, length));
            }
        }
    }

    private static void put() {
        for (int m : SOME_LENGTHS) {
            Scene x = Scene.sixOf(Edges.mixed(m));
            for (int index : Edges.around(m)) {
                for (int n : new int[] {Edges.MIN, -1, 0, 1, 2, 31, 32, 33, Edges.MAX}) {
                    for (int bits : new int[] {0, -1, 0x5a5a5a5a}) {
                        x.likeModel(Call.put(3, index, n, bits));
                    }
                }
            }
        }
    }

    private static void change() {
        for (int m : SOME_LENGTHS) {
            for (String from : Edges.vectors(m)) {
                Scene x = new Scene("1", from, Edges.ALL_TRUE);
                for (int kind = -1; kind <= 9; kind++) {
                    for (int k : new int[] {Edges.MIN, -m - 1, -m, 1 - m, -1, 0, 1, 2, m - 1, m, m + 1, 256, 257,
                        Edges.MAX}) {
                        x.likeModel(Call.change(1, kind, 1, k));
                        x.likeModel(Call.change(2, kind, 1, k));
                    }
                }
            }
        }
    }

    private static void combine() {
        for (int m : SOME_LENGTHS) {
            for (int n : new int[] {0, 1, m - 1, m, m + 1, 255 - m, 256 - m, 257 - m, 256}) {
                if (n >= 0 && n <= 256) {
                    combineAll(m, n);
                }
            }
        }
    }

    private static void combineAll(int m, int n) {
        for (String a : Edges.vectors(m)) {
            for (String b : new String[] {"1".repeat(n), Edges.mixed(n)}) {
                Scene x = new Scene("1", a, b, Edges.ALL_TRUE);
                for (int kind = -1; kind <= 8; kind++) {
                    for (int to = 1; to <= 3; to++) {
                        x.likeModel(Call.combine(to, kind, 1, 2));
                    }
                }
            }
        }
    }

    /** Reading answers alone: that it changes nothing is tested elsewhere. */
    private static void read(String vector, Call call) {
        Check.due(call + " on 1=" + vector, call.on(Subject.amongTrue(1, vector)),
            call.on(new Model(Edges.ALL_TRUE, vector, Edges.ALL_TRUE)));
    }

    private static void lengthGetPlace() {
        for (int m : Edges.LENGTHS) {
            for (String vector : Edges.vectors(m)) {
                read(vector, Call.length(1));
                for (int n : Edges.around(m)) {
                    read(vector, Call.get(1, n));
                    read(vector, Call.place(1, n));
                }
            }
        }
    }

    private static void count() {
        for (int m : SOME_LENGTHS) {
            for (String vector : Edges.vectors(m)) {
                for (int from : Edges.around(m)) {
                    for (int to : Edges.around(m)) {
                        read(vector, Call.count(1, from, to));
                    }
                }
            }
        }
    }

    private static void findRun() {
        for (int m : SOME_LENGTHS) {
            for (String vector : Edges.vectors(m)) {
                for (int from : Edges.around(m)) {
                    for (int run : Edges.around(m)) {
                        read(vector, Call.findRun(1, from, run));
                    }
                    read(vector, Call.findRun(1, from, 256));
                    read(vector, Call.findRun(1, from, 257));
                }
            }
        }
    }

    private static void compare() {
        for (int m : Edges.LENGTHS) {
            for (int n : Edges.LENGTHS) {
                for (String a : Edges.vectors(m)) {
                    for (String b : Edges.vectors(n)) {
                        Check.due("compare " + a + " with " + b, Subject.with(a, b).compare(0, 1),
                            new Model(a, b).compare(0, 1));
                    }
                }
            }
        }
    }

    public static void main(String[] args) {
        Check.sentence("make at its edges", EdgesTest::make);
        Check.sentence("put at its edges", EdgesTest::put);
        Check.sentence("change at its edges", EdgesTest::change);
        Check.sentence("combine at its edges", EdgesTest::combine);
        Check.sentence("length, get and place at their edges", EdgesTest::lengthGetPlace);
        Check.sentence("count at its edges", EdgesTest::count);
        Check.sentence("findRun at its edges", EdgesTest::findRun);
        Check.sentence("compare at its edges", EdgesTest::compare);
        Check.end();
    }
}

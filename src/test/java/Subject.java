/**
 * A BitVectorWords that is never used for more calls than the document speaks of, and whose vectors are set and
 * shown as strings of 0 and 1, element 0 first.
 */
final class Subject implements Words {
    static final int MOST_CALLS = 512;

    private final BitVectorWords words = new BitVectorWords();
    private int calls = 0;

    static Subject with(String... vectors) {
        Subject x = new Subject();
        for (int v = 0; v < vectors.length; v++) {
            x.set(v, vectors[v]);
        }
        return x;
    }

    /** The same vectors on an object on which each of them has held 256 true elements before. */
    static Subject usedWith(String... vectors) {
        Subject x = new Subject();
        for (int v = 0; v < vectors.length; v++) {
            x.make(v, Edges.LONGEST);
            x.change(v, BitVectorWords.NOT, v, 0);
            x.set(v, vectors[v]);
        }
        return x;
    }

    /** All six vectors are this one. */
    static Subject sixOf(String vector) {
        return with(vector, vector, vector, vector, vector, vector);
    }

    /** The other vectors are true throughout and of length 256, so that a call that strays into one of them is seen. */
    static Subject amongTrue(int vector, String elements) {
        Subject x = sixOf(Edges.ALL_TRUE);
        x.set(vector, elements);
        return x;
    }

    private BitVectorWords called() {
        calls++;
        if (calls > MOST_CALLS) {
            throw new IllegalStateException("the test makes more than " + MOST_CALLS + " calls on one object");
        }
        return words;
    }

    int callsLeft() {
        return MOST_CALLS - calls;
    }

    @Override
    public int make(int vector, int length) {
        return called().make(vector, length);
    }

    @Override
    public int put(int vector, int index, int n, int bits) {
        return called().put(vector, index, n, bits);
    }

    @Override
    public int change(int to, int kind, int from, int k) {
        return called().change(to, kind, from, k);
    }

    @Override
    public int combine(int to, int kind, int a, int b) {
        return called().combine(to, kind, a, b);
    }

    @Override
    public int length(int vector) {
        return called().length(vector);
    }

    @Override
    public boolean get(int vector, int index) {
        return called().get(vector, index);
    }

    @Override
    public int count(int vector, int from, int to) {
        return called().count(vector, from, to);
    }

    @Override
    public int place(int vector, int n) {
        return called().place(vector, n);
    }

    @Override
    public int findRun(int vector, int from, int run) {
        return called().findRun(vector, from, run);
    }

    @Override
    public int compare(int a, int b) {
        return called().compare(a, b);
    }

    void set(int vector, String elements) {
        make(vector, elements.length());
        for (int start = 0; start < elements.length(); start += 32) {
            int n = Math.min(32, elements.length() - start);
            int bits = 0;
            for (int j = 0; j < n; j++) {
                if (elements.charAt(start + j) == '1') {
                    bits |= 1 << j;
                }
            }
            put(vector, start, n, bits);
        }
    }

    String show(int vector) {
        StringBuilder shown = new StringBuilder();
        int length = length(vector);
        for (int i = 0; i < length; i++) {
            shown.append(get(vector, i) ? '1' : '0');
        }
        return shown.toString();
    }
}

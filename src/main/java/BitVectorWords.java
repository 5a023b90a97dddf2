public final class BitVectorWords {
    public static final int BAD_VECTOR = -1;
    public static final int BAD_KIND = -2;
    public static final int BAD_LENGTH = -3;
    public static final int BAD_INDEX = -4;

    public static final int NOT = 0;
    public static final int REVERSE = 1;
    public static final int ROTATE = 2;
    public static final int SHIFT = 3;
    public static final int TAKE = 4;
    public static final int STRETCH = 5;
    public static final int SCAN_AND = 6;
    public static final int SCAN_OR = 7;
    public static final int SCAN_XOR = 8;

    public static final int AND = 0;
    public static final int OR = 1;
    public static final int XOR = 2;
    public static final int PLUS = 3;
    public static final int JOIN = 4;
    public static final int COMPRESS = 5;
    public static final int EXPAND = 6;
    public static final int MESH = 7;

    private static final int VECTORS = 6;
    private static final int LONGEST = 256;
    private static final int ALL_ELEMENTS = VECTORS * LONGEST;
    private static final int WORD_BITS = 32;

    // Element i of vector v stands at v * LONGEST + i. What stands at or past a vector's length is left over
    // from earlier and means nothing, so elements are read through element() alone.
    private final boolean[] elements = new boolean[ALL_ELEMENTS];
    private final int[] lengths = new int[VECTORS];

    // A new vector is built here before it replaces one, since an operand may be the vector that is replaced.
    private final boolean[] result = new boolean[LONGEST];

    public BitVectorWords() {
    }

    public int make(int vector, int length) {
        if (!isVector(vector)) {
            return BAD_VECTOR;
        }
        if (length < 0 || length > LONGEST) {
            return BAD_LENGTH;
        }
        for (int i = 0; i < length; i++) {
            result[i] = false;
        }
        return replace(vector, length);
    }

    public int put(int vector, int index, int n, int bits) {
        if (!isVector(vector)) {
            return BAD_VECTOR;
        }
        if (n < 1 || n > WORD_BITS) {
            return BAD_LENGTH;
        }
        // Not index + n > length: that sum could wrap.
        if (index < 0 || index > lengths[vector] - n) {
            return BAD_INDEX;
        }
        int start = vector * LONGEST + index;
        for (int j = 0; j < n; j++) {
            elements[start + j] = ((bits >> j) & 1) == 1;
        }
        return n;
    }

    public int change(int to, int kind, int from, int k) {
        if (!isVector(to) || !isVector(from)) {
            return BAD_VECTOR;
        }
        int size = buildChange(kind, from, k);
        return replace(to, size);
    }

    public int combine(int to, int kind, int a, int b) {
        if (!isVector(to) || !isVector(a) || !isVector(b)) {
            return BAD_VECTOR;
        }
        int size = buildCombination(kind, a, b);
        return replace(to, size);
    }

    public int length(int vector) {
        return isVector(vector) ? lengths[vector] : BAD_VECTOR;
    }

    public boolean get(int vector, int index) {
        return isVector(vector) && element(vector, index);
    }

    public int count(int vector, int from, int to) {
        if (!isVector(vector)) {
            return BAD_VECTOR;
        }
        int first = from < 0 ? 0 : from;
        int last = to < lengths[vector] ? to : lengths[vector] - 1;
        return countTrue(vector, first, last);
    }

    public int place(int vector, int n) {
        if (!isVector(vector)) {
            return BAD_VECTOR;
        }
        int before = 0;
        for (int i = 0; i < lengths[vector]; i++) {
            if (element(vector, i)) {
                if (before == n) {
                    return i;
                }
                before++;
            }
        }
        return BAD_INDEX;
    }

    public int findRun(int vector, int from, int run) {
        if (!isVector(vector)) {
            return BAD_VECTOR;
        }
        if (run < 1 || run > LONGEST) {
            return BAD_LENGTH;
        }
        if (from < 0) {
            return BAD_INDEX;
        }
        int trueInRow = 0;
        for (int i = from; i < lengths[vector]; i++) {
            trueInRow = element(vector, i) ? trueInRow + 1 : 0;
            if (trueInRow == run) {
                return i - run + 1;
            }
        }
        return BAD_INDEX;
    }

    public int compare(int a, int b) {
        if (!isVector(a) || !isVector(b)) {
            return 0;
        }
        for (int i = LONGEST - 1; i >= 0; i--) {
            boolean x = element(a, i);
            boolean y = element(b, i);
            if (x != y) {
                return x ? 1 : -1;
            }
        }
        return 0;
    }

    private static boolean isVector(int vector) {
        return vector >= 0 && vector < VECTORS;
    }

    // False for an index outside the vector. The index is a long because SHIFT's i + k must not wrap.
    private boolean element(int vector, long index) {
        return index >= 0 && index < lengths[vector] && elements[vector * LONGEST + (int) index];
    }

    private int countTrue(int vector, int first, int last) {
        int found = 0;
        for (int i = first; i <= last; i++) {
            if (element(vector, i)) {
                found++;
            }
        }
        return found;
    }

    // A negative size is the refusal of the call that built the result: it is handed on and nothing changes.
    private int replace(int vector, int size) {
        if (size < 0) {
            return size;
        }
        int start = vector * LONGEST;
        for (int i = 0; i < size; i++) {
            elements[start + i] = result[i];
        }
        lengths[vector] = size;
        return size;
    }

    // Each build method below leaves the new vector in result and answers its length, or answers why there is none.

    private int buildChange(int kind, int from, int k) {
        switch (kind) {
            case NOT:
                return buildNot(from);
            case REVERSE:
                return buildReverse(from);
            case ROTATE:
                return buildRotate(from, k);
            case SHIFT:
                return buildShift(from, k);
            case TAKE:
                return buildTake(from, k);
            case STRETCH:
                return buildStretch(from, k);
            case SCAN_AND:
                return buildScanAnd(from);
            case SCAN_OR:
                return buildScanOr(from);
            case SCAN_XOR:
                return buildScanXor(from);
            default:
                return BAD_KIND;
        }
    }

    private int buildNot(int from) {
        int m = lengths[from];
        for (int i = 0; i < m; i++) {
            result[i] = !element(from, i);
        }
        return m;
    }

    private int buildReverse(int from) {
        int m = lengths[from];
        for (int i = 0; i < m; i++) {
            result[i] = element(from, m - 1 - i);
        }
        return m;
    }

    private int buildRotate(int from, int k) {
        int m = lengths[from];
        if (m == 0) {
            return 0;
        }
        // Java's remainder takes the sign of k: m is added so that i + turn is never negative.
        int turn = k % m + m;
        for (int i = 0; i < m; i++) {
            result[i] = element(from, (i + turn) % m);
        }
        return m;
    }

    private int buildShift(int from, int k) {
        int m = lengths[from];
        for (int i = 0; i < m; i++) {
            result[i] = element(from, (long) i + k);
        }
        return m;
    }

    private int buildTake(int from, int k) {
        if (k < 0 || k > LONGEST) {
            return BAD_LENGTH;
        }
        for (int i = 0; i < k; i++) {
            result[i] = element(from, i);
        }
        return k;
    }

    private int buildStretch(int from, int k) {
        if (k < 1 || k > LONGEST) {
            return BAD_LENGTH;
        }
        int size = lengths[from] * k;
        if (size > LONGEST) {
            return BAD_LENGTH;
        }
        for (int i = 0; i < size; i++) {
            result[i] = element(from, i / k);
        }
        return size;
    }

    private int buildScanAnd(int from) {
        int m = lengths[from];
        boolean all = true;
        for (int i = 0; i < m; i++) {
            all = element(from, i) && all;
            result[i] = all;
        }
        return m;
    }

    private int buildScanOr(int from) {
        int m = lengths[from];
        boolean any = false;
        for (int i = 0; i < m; i++) {
            any = element(from, i) || any;
            result[i] = any;
        }
        return m;
    }

    private int buildScanXor(int from) {
        int m = lengths[from];
        boolean odd = false;
        for (int i = 0; i < m; i++) {
            odd = element(from, i) != odd;
            result[i] = odd;
        }
        return m;
    }

    private int buildCombination(int kind, int a, int b) {
        switch (kind) {
            case AND:
            case OR:
            case XOR:
                return buildBitwise(kind, a, b);
            case PLUS:
                return buildPlus(a, b);
            case JOIN:
                return buildJoin(a, b);
            case COMPRESS:
                return buildCompress(a, b);
            case EXPAND:
                return buildExpand(a, b);
            case MESH:
                return buildMesh(a, b);
            default:
                return BAD_KIND;
        }
    }

    private int buildBitwise(int kind, int a, int b) {
        int m = lengths[a];
        if (lengths[b] != m) {
            return BAD_LENGTH;
        }
        for (int i = 0; i < m; i++) {
            boolean x = element(a, i);
            boolean y = element(b, i);
            result[i] = bitwise(kind, x, y);
        }
        return m;
    }

    private static boolean bitwise(int kind, boolean x, boolean y) {
        switch (kind) {
            case AND:
                return x && y;
            case OR:
                return x || y;
            default:
                return x != y;
        }
    }

    private int buildPlus(int a, int b) {
        int m = lengths[a];
        if (lengths[b] != m) {
            return BAD_LENGTH;
        }
        boolean carry = false;
        for (int i = 0; i < m; i++) {
            boolean x = element(a, i);
            boolean y = element(b, i);
            boolean differ = x != y;
            result[i] = differ != carry;
            carry = differ ? carry : x;
        }
        return m;
    }

    private int buildJoin(int a, int b) {
        int m = lengths[a];
        int size = m + lengths[b];
        if (size > LONGEST) {
            return BAD_LENGTH;
        }
        for (int i = 0; i < size; i++) {
            result[i] = i < m ? element(a, i) : element(b, i - m);
        }
        return size;
    }

    private int buildCompress(int a, int b) {
        int m = lengths[a];
        if (lengths[b] != m) {
            return BAD_LENGTH;
        }
        int size = 0;
        for (int i = 0; i < m; i++) {
            if (element(a, i)) {
                result[size] = element(b, i);
                size++;
            }
        }
        return size;
    }

    private int buildExpand(int a, int b) {
        int m = lengths[a];
        int places = countTrue(a, 0, m - 1);
        if (lengths[b] != places) {
            return BAD_LENGTH;
        }
        int used = 0;
        for (int i = 0; i < m; i++) {
            result[i] = false;
            if (element(a, i)) {
                result[i] = element(b, used);
                used++;
            }
        }
        return m;
    }

    private int buildMesh(int a, int b) {
        int m = lengths[a];
        int size = m + lengths[b];
        if (lengths[b] != m || size > LONGEST) {
            return BAD_LENGTH;
        }
        for (int i = 0; i < m; i++) {
            result[2 * i] = element(a, i);
            result[2 * i + 1] = element(b, i);
        }
        return size;
    }
}

import java.math.BigInteger;

/** The document's promises said once more, in another way: a vector is a string of 0 and 1, element 0 first. */
final class Model implements Words {
    private final String[] vectors = {"", "", "", "", "", ""};

    Model(String... given) {
        System.arraycopy(given, 0, vectors, 0, given.length);
    }

    private static boolean bad(int vector) {
        return vector < 0 || vector > 5;
    }

    private static String falses(int n) {
        return "0".repeat(n);
    }

    private static BigInteger number(String x) {
        return new BigInteger("0" + new StringBuilder(x).reverse(), 2);
    }

    private static int trues(String x) {
        return x.replace("0", "").length();
    }

    private int store(int to, String value) {
        vectors[to] = value;
        return value.length();
    }

    String show(int vector) {
        return vectors[vector];
    }

    String[] showAll() {
        return vectors.clone();
    }

    @Override
    public int make(int vector, int length) {
        if (bad(vector)) return BitVectorWords.BAD_VECTOR;
        if (length < 0 || length > 256) return BitVectorWords.BAD_LENGTH;
        return store(vector, falses(length));
    }

    @Override
    public int put(int vector, int index, int n, int bits) {
        if (bad(vector)) return BitVectorWords.BAD_VECTOR;
        if (n < 1 || n > 32) return BitVectorWords.BAD_LENGTH;
        String x = vectors[vector];
        if (index < 0 || (long) index + n > x.length()) return BitVectorWords.BAD_INDEX;
        String digits = falses(32) + Integer.toBinaryString(bits);
        String lowest = new StringBuilder(digits).reverse().substring(0, n);
        store(vector, x.substring(0, index) + lowest + x.substring(index + n));
        return n;
    }

    @Override
    public int change(int to, int kind, int from, int k) {
        if (bad(to) || bad(from)) return BitVectorWords.BAD_VECTOR;
        if (kind < 0 || kind > 8) return BitVectorWords.BAD_KIND;
        String x = vectors[from];
        int m = x.length();
        if (kind == BitVectorWords.TAKE && (k < 0 || k > 256)) return BitVectorWords.BAD_LENGTH;
        if (kind == BitVectorWords.STRETCH && (k < 1 || k > 256 || m * k > 256)) return BitVectorWords.BAD_LENGTH;
        return store(to, changed(kind, x, k));
    }

    private static String changed(int kind, String x, int k) {
        int m = x.length();
        switch (kind) {
            case BitVectorWords.NOT:
                return x.replace('0', '-').replace('1', '0').replace('-', '1');
            case BitVectorWords.REVERSE:
                return new StringBuilder(x).reverse().toString();
            case BitVectorWords.ROTATE:
                int turn = m == 0 ? 0 : Math.floorMod(k, m);
                return x.substring(turn) + x.substring(0, turn);
            case BitVectorWords.SHIFT:
                if (Math.abs((long) k) >= m) return falses(m);
                return k >= 0 ? x.substring(k) + falses(k) : falses(-k) + x.substring(0, m + k);
            case BitVectorWords.TAKE:
                return (x + falses(256)).substring(0, k);
            case BitVectorWords.STRETCH:
                return x.replace("0", falses(k)).replace("1", "1".repeat(k));
            case BitVectorWords.SCAN_AND:
                int firstFalse = x.indexOf('0');
                return firstFalse < 0 ? x : x.substring(0, firstFalse) + falses(m - firstFalse);
            case BitVectorWords.SCAN_OR:
                int firstTrue = x.indexOf('1');
                return firstTrue < 0 ? x : x.substring(0, firstTrue) + "1".repeat(m - firstTrue);
            default:
                StringBuilder parity = new StringBuilder();
                for (int i = 0; i < m; i++) parity.append(trues(x.substring(0, i + 1)) % 2);
                return parity.toString();
        }
    }

    @Override
    public int combine(int to, int kind, int a, int b) {
        if (bad(to) || bad(a) || bad(b)) return BitVectorWords.BAD_VECTOR;
        if (kind < 0 || kind > 7) return BitVectorWords.BAD_KIND;
        String x = vectors[a];
        String y = vectors[b];
        boolean joins = kind == BitVectorWords.JOIN || kind == BitVectorWords.MESH;
        boolean free = kind == BitVectorWords.JOIN || kind == BitVectorWords.EXPAND;
        if (!free && x.length() != y.length()) return BitVectorWords.BAD_LENGTH;
        if (joins && x.length() + y.length() > 256) return BitVectorWords.BAD_LENGTH;
        if (kind == BitVectorWords.EXPAND && y.length() != trues(x)) return BitVectorWords.BAD_LENGTH;
        return store(to, combined(kind, x, y));
    }

    private static String combined(int kind, String x, String y) {
        int m = x.length();
        switch (kind) {
            case BitVectorWords.AND:
                return digits(number(x).and(number(y)), m);
            case BitVectorWords.OR:
                return digits(number(x).or(number(y)), m);
            case BitVectorWords.XOR:
                return digits(number(x).xor(number(y)), m);
            case BitVectorWords.PLUS:
                return digits(number(x).add(number(y)), m);
            case BitVectorWords.JOIN:
                return x + y;
            default:
                return picked(kind, x, y);
        }
    }

    private static String digits(BigInteger number, int m) {
        return (new StringBuilder(number.toString(2)).reverse() + falses(m)).substring(0, m);
    }

    private static String picked(int kind, String x, String y) {
        StringBuilder made = new StringBuilder();
        int next = 0;
        for (int i = 0; i < x.length(); i++) {
            boolean here = x.charAt(i) == '1';
            if (kind == BitVectorWords.MESH) {
                made.append(x.charAt(i)).append(y.charAt(i));
            } else if (kind == BitVectorWords.COMPRESS) {
                made.append(here ? y.substring(i, i + 1) : "");
            } else {
                made.append(here ? y.charAt(next++) : '0');
            }
        }
        return made.toString();
    }

    @Override
    public int length(int vector) {
        return bad(vector) ? BitVectorWords.BAD_VECTOR : vectors[vector].length();
    }

    @Override
    public boolean get(int vector, int index) {
        if (bad(vector) || index < 0 || index >= vectors[vector].length()) return false;
        return vectors[vector].charAt(index) == '1';
    }

    @Override
    public int count(int vector, int from, int to) {
        if (bad(vector)) return BitVectorWords.BAD_VECTOR;
        int found = 0;
        for (int i = 0; i < vectors[vector].length(); i++) {
            if (i >= from && i <= to && vectors[vector].charAt(i) == '1') found++;
        }
        return found;
    }

    @Override
    public int place(int vector, int n) {
        if (bad(vector)) return BitVectorWords.BAD_VECTOR;
        String x = vectors[vector];
        for (int i = 0; i < x.length(); i++) {
            if (x.charAt(i) == '1' && trues(x.substring(0, i)) == n) return i;
        }
        return BitVectorWords.BAD_INDEX;
    }

    @Override
    public int findRun(int vector, int from, int run) {
        if (bad(vector)) return BitVectorWords.BAD_VECTOR;
        if (run < 1 || run > 256) return BitVectorWords.BAD_LENGTH;
        if (from < 0) return BitVectorWords.BAD_INDEX;
        int at = from > 256 ? -1 : vectors[vector].indexOf("1".repeat(run), from);
        return at < 0 ? BitVectorWords.BAD_INDEX : at;
    }

    @Override
    public int compare(int a, int b) {
        return bad(a) || bad(b) ? 0 : number(vectors[a]).compareTo(number(vectors[b]));
    }
}

import java.util.ArrayList;
import java.util.LinkedHashSet;
import java.util.List;
import java.util.Set;

/** The values at which the document's limits are tested. */
final class Edges {
    static final int MIN = Integer.MIN_VALUE;
    static final int MAX = Integer.MAX_VALUE;
    static final int LONGEST = 256;
    static final int[] NOT_VECTORS = outside(0, 5);
    static final int[] LENGTHS = {0, 1, 2, 31, 32, 33, 63, 64, 65, 127, 128, 129, 254, 255, 256};
    static final String ALL_TRUE = "1".repeat(LONGEST);
    static final String ALL_FALSE = "0".repeat(LONGEST);

    private static final int CHARS = 1 << 16;

    private Edges() {
    }

    /**
     * Ints just outside low to high and at the ends of the int range, and some that would lie inside if only their
     * lowest 16 bits were looked at.
     */
    static int[] outside(int low, int high) {
        return new int[] {MIN, MIN + 1, MIN + low, MIN + high, low - CHARS, high - CHARS, low - 2, low - 1, high + 1,
            high + 2, low + CHARS, high + CHARS, MAX - 1, MAX};
    }

    /** The ints about 0 and about m, each with both signs, and those at the ends of the int range. */
    static int[] around(int m) {
        Set<Integer> found = new LinkedHashSet<>();
        for (int near : new int[] {-2, -1, 0, 1, 2}) {
            found.add(near);
            found.add(m + near);
            found.add(-m + near);
        }
        for (int near : new int[] {0, 1, 31, 32, m - 1, m, m + 1, LONGEST - 1, LONGEST}) {
            found.add(MAX - near);
            found.add(MIN + near);
        }
        return found.stream().mapToInt(Integer::intValue).toArray();
    }

    static String only(int index, int length) {
        return "0".repeat(index) + "1" + "0".repeat(length - index - 1);
    }

    static String without(int index, int length) {
        return "1".repeat(index) + "0" + "1".repeat(length - index - 1);
    }

    static String mixed(int length) {
        return "1101001110".repeat(LONGEST / 10 + 1).substring(0, length);
    }

    /** Vectors of this length: all true, all false, true or false at an end alone, and mixed. */
    static List<String> vectors(int length) {
        if (length == 0) {
            return List.of("");
        }
        Set<String> found = new LinkedHashSet<>();
        found.add("1".repeat(length));
        found.add("0".repeat(length));
        found.add(only(0, length));
        found.add(only(length - 1, length));
        found.add(without(0, length));
        found.add(without(length - 1, length));
        found.add(mixed(length));
        return new ArrayList<>(found);
    }
}

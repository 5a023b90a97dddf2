/** Promise 11. */
public final class CompareTest {
    private static void compares(String a, String b, int want) {
        Subject x = Subject.with("", a, "", b);
        Check.due("compare " + a + " with " + b, x.compare(1, 3), want);
        Check.due("compare " + b + " with " + a, x.compare(3, 1), -want);
        Check.due("compare " + a + " with itself", x.compare(1, 1), 0);
    }

    private static void lessEqualGreater() {
        compares("101", "101", 0);
        compares("0", "0", 0);
        compares("1", "1", 0);
        compares("0", "1", -1);
        compares("011", "111", -1);
        compares("101", "001", 1);
        compares(Edges.ALL_TRUE, Edges.ALL_TRUE, 0);
        compares(Edges.ALL_FALSE, Edges.ALL_FALSE, 0);
        compares(Edges.ALL_FALSE, Edges.ALL_TRUE, -1);
        compares(Edges.mixed(256), Edges.mixed(256), 0);
    }

    private static void elementZeroLowest() {
        compares("10", "01", -1);
        compares("1110", "0001", -1);
        compares("110", "101", -1);
        compares(Edges.without(255, 256), Edges.only(255, 256), -1);
        compares(Edges.ALL_TRUE, Edges.without(0, 256), 1);
        compares(Edges.only(0, 256), Edges.ALL_FALSE, 1);
        for (int i = 1; i < 256; i++) {
            compares(Edges.only(i, 256), "1".repeat(i) + "0".repeat(256 - i), 1);
            compares(Edges.only(i, 256), Edges.only(i - 1, 256), 1);
        }
    }

    private static void missingAreFalse() {
        compares("", "", 0);
        compares("", "0", 0);
        compares("", "1", -1);
        compares("", Edges.ALL_FALSE, 0);
        compares("", Edges.only(0, 256), -1);
        compares("", Edges.only(255, 256), -1);
        compares("1", "10", 0);
        compares("1", "01", -1);
        compares("101", "101" + "0".repeat(253), 0);
        compares("111", "0001", -1);
        compares("111", "110000", 1);
        compares("1".repeat(255), Edges.without(255, 256), 0);
        compares("1".repeat(255), Edges.only(255, 256), -1);
        for (int m = 0; m < 256; m++) {
            compares("1".repeat(m), Edges.only(m, m + 1), -1);
            compares("1".repeat(m), "1".repeat(m) + "0".repeat(256 - m), 0);
        }
    }

    private static void cutOffElements() {
        Subject x = Subject.with(Edges.ALL_TRUE, "1", "");
        x.change(0, BitVectorWords.TAKE, 0, 1);
        Check.due("after TAKE 1", x.compare(0, 1), 0);
        x.make(0, 0);
        Check.due("after make 0", x.compare(0, 2), 0);
    }

    private static void vectorOutOfRange() {
        Scene growing = new Scene("", "1", "01", "001", Edges.ALL_FALSE, Edges.ALL_TRUE);
        for (int bad : Edges.NOT_VECTORS) {
            for (int v = 0; v < 6; v++) {
                growing.answers(Call.compare(bad, v), 0);
                growing.answers(Call.compare(v, bad), 0);
            }
        }
    }

    private static void bothOutOfRange() {
        for (int bad : Edges.NOT_VECTORS) {
            for (int other : Edges.NOT_VECTORS) {
                Scene.sixOf("1").answers(Call.compare(bad, other), 0);
            }
        }
    }

    public static void main(String[] args) {
        Check.sentence("compare: -1, 0 or 1 as vector a is less than, equal to or greater than vector b",
            CompareTest::lessEqualGreater);
        Check.sentence("compare: as binary numbers (element 0 lowest)", CompareTest::elementZeroLowest);
        Check.sentence("compare: missing elements count as false", CompareTest::missingAreFalse);
        Check.sentence("compare: missing elements count as false, where elements were cut off",
            CompareTest::cutOffElements);
        Check.sentence("compare: One vector out of range: 0", CompareTest::vectorOutOfRange);
        Check.sentence("compare: One vector out of range: 0, and the other one, too", CompareTest::bothOutOfRange);
        Check.end();
    }
}

/** Promise 11. */
public final class CompareTest {
    private static void compares(String a, String b, int want) {
        Subject x = Subject.with("", a, "", b);
        Check.due("compare " + a + " with " + b, x.compare(1, 3), want);
        Check.due("compare " + b + " with " + a, x.compare(3, 1), -want);
        Check.due("compare " + a + " with itself", x.compare(1, 1), 0);
    }

    public static void main(String[] args) {
        compares("", "", 0);
        compares("101", "101", 0);
        compares("10", "01", -1);
        compares("1110", "0001", -1);
        compares("011", "111", -1);
        compares("1", "01", -1);
        compares("", "1", -1);
        compares("", "000", 0);
        compares("101", "10100000", 0);
        compares("111", "0001", -1);
        compares("111", "110000", 1);
        compares("1".repeat(255) + "0", "0".repeat(255) + "1", -1);
        compares("0".repeat(255) + "1", "1", 1);
        compares("0".repeat(256), "", 0);
        compares("1".repeat(256), "0" + "1".repeat(255), 1);

        Subject x = Subject.with("1111", "1", "1", "1", "1", "1");
        for (int vector : Subject.NOT_VECTORS) {
            for (int other = 0; other < 6; other++) {
                Check.due("compare " + vector + " with " + other, x.compare(vector, other), 0);
                Check.due("compare " + other + " with " + vector, x.compare(other, vector), 0);
            }
            Check.due("compare " + vector + " with itself", x.compare(vector, vector), 0);
        }
        x.change(0, BitVectorWords.TAKE, 0, 1);
        Check.due("elements that were cut off", x.compare(0, 1), 0);
        Check.end();
    }
}

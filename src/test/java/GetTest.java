/** Promise 7. */
public final class GetTest {
    public static void main(String[] args) {
        Subject x = Subject.with("1111", "1011", "1".repeat(256), "1", "", "1".repeat(256));
        Check.due("get 1 0", x.get(1, 0), true);
        Check.due("get 1 1", x.get(1, 1), false);
        Check.due("get 1 3", x.get(1, 3), true);
        Check.due("get 2 255", x.get(2, 255), true);
        Check.due("get 5 255", x.get(5, 255), true);
        for (int index : new int[] {-1, 4, 5, 255, 256, -256, 512, Integer.MIN_VALUE, Integer.MAX_VALUE}) {
            Check.due("get 1 " + index, x.get(1, index), false);
        }
        for (int index : new int[] {-1, 256, 257, -256, Integer.MIN_VALUE, Integer.MAX_VALUE}) {
            Check.due("get 2 " + index, x.get(2, index), false);
            Check.due("get 5 " + index, x.get(5, index), false);
        }
        Check.due("get 4 0", x.get(4, 0), false);
        for (int vector : Subject.NOT_VECTORS) {
            Check.due("get " + vector + " 0", x.get(vector, 0), false);
            Check.due("get " + vector + " -1", x.get(vector, -1), false);
        }
        x.change(0, BitVectorWords.TAKE, 0, 2);
        Check.due("an element that was cut off", x.get(0, 2), false);
        Check.end();
    }
}

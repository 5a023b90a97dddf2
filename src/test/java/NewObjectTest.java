/** Promise 1. */
public final class NewObjectTest {
    public static void main(String[] args) {
        Subject x = new Subject();
        for (int v = 0; v < 6; v++) {
            Check.due("length " + v, x.length(v), 0);
            Check.due("get " + v, x.get(v, 0), false);
            Check.due("count " + v, x.count(v, Integer.MIN_VALUE, Integer.MAX_VALUE), 0);
            Check.due("place " + v, x.place(v, 0), BitVectorWords.BAD_INDEX);
            Check.due("put " + v, x.put(v, 0, 1, 1), BitVectorWords.BAD_INDEX);
        }
        Subject other = new Subject();
        x.set(0, "101");
        Check.due("another object", other.length(0), 0);
        Check.end();
    }
}

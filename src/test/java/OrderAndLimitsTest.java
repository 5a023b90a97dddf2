/** Promise 12, and the terms: reading changes nothing, and an object serves 512 calls. */
public final class OrderAndLimitsTest {
    private static void lengthBeforeIndex() {
        for (int wrong : new int[] {0, -1, 33, Integer.MIN_VALUE, Integer.MAX_VALUE}) {
            for (int index : new int[] {-1, 5, 256, Integer.MIN_VALUE, Integer.MAX_VALUE}) {
                Subject x = Subject.with("11111");
                Check.refused("put 0 " + index + " " + wrong, x, () -> x.put(0, index, wrong, 0),
                    BitVectorWords.BAD_LENGTH);
            }
        }
        for (int wrong : new int[] {0, -1, 257, Integer.MIN_VALUE, Integer.MAX_VALUE}) {
            for (int from : new int[] {-1, 5, 256, Integer.MIN_VALUE, Integer.MAX_VALUE}) {
                Subject x = Subject.with("11111");
                Check.refused("findRun 0 " + from + " " + wrong, x, () -> x.findRun(0, from, wrong),
                    BitVectorWords.BAD_LENGTH);
            }
        }
    }

    private static void readingChangesNothing() {
        Subject x = Subject.with("1101", "011", "", "1", "0", "10101");
        String before = x.showAll();
        for (int v = -1; v <= 6; v++) {
            x.length(v);
            x.get(v, 1);
            x.count(v, 0, 9);
            x.place(v, 1);
            x.findRun(v, 0, 2);
            x.compare(v, 1);
        }
        Check.due("the vectors after reading", x.showAll(), before);
    }

    private static void lastCall() {
        Subject x = new Subject();
        x.make(5, 256);
        while (x.callsLeft() > 2) {
            x.change(5, BitVectorWords.NOT, 5, 0);
        }
        Check.due("call 511", x.put(5, 255, 1, 0), 1);
        // 509 times NOT leaves all elements true.
        Check.due("call 512", x.count(5, 0, 255), 255);
    }

    public static void main(String[] args) {
        lengthBeforeIndex();
        readingChangesNothing();
        lastCall();
        Check.end();
    }
}

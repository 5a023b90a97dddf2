/** Promise 12. */
public final class OrderAndLimitsTest {
    private static void putLengthFirst() {
        for (int n : Edges.outside(1, 32)) {
            for (int index : Edges.outside(0, 255)) {
                for (int length : new int[] {0, 5, 256}) {
                    Scene.sixOf("1".repeat(length)).answers(Call.put(0, index, n, 0), BitVectorWords.BAD_LENGTH);
                }
            }
        }
        Scene.sixOf("11111").answers(Call.put(0, -1, 1, 0), BitVectorWords.BAD_INDEX);
        Scene.sixOf("11111").answers(Call.put(0, 5, 32, 0), BitVectorWords.BAD_INDEX);
    }

    private static void findRunLengthFirst() {
        for (int run : Edges.outside(1, 256)) {
            for (int from : Edges.outside(0, 255)) {
                for (int length : new int[] {0, 5, 256}) {
                    Scene.sixOf("1".repeat(length)).answers(Call.findRun(0, from, run), BitVectorWords.BAD_LENGTH);
                }
            }
            Scene.sixOf(Edges.ALL_FALSE).answers(Call.findRun(5, 0, run), BitVectorWords.BAD_LENGTH);
        }
        Scene.sixOf("11111").answers(Call.findRun(0, -1, 1), BitVectorWords.BAD_INDEX);
        Scene.sixOf("11111").answers(Call.findRun(0, 5, 256), BitVectorWords.BAD_INDEX);
    }

    public static void main(String[] args) {
        Check.sentence("put: BAD_LENGTH is tested before BAD_INDEX", OrderAndLimitsTest::putLengthFirst);
        Check.sentence("findRun: BAD_LENGTH is tested before BAD_INDEX", OrderAndLimitsTest::findRunLengthFirst);
        Check.end();
    }
}

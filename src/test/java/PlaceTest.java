/** Promise 9. */
public final class PlaceTest {
    private static void place(Subject x, int vector, int n, int want) {
        Check.due("place " + vector + " " + n, x.place(vector, n), want);
    }

    private static void indexOfTrueElement() {
        Subject x = Subject.with("0101100", Edges.ALL_TRUE, Edges.only(0, 256), Edges.only(255, 256), "1",
            Edges.without(0, 256));
        place(x, 0, 0, 1);
        place(x, 0, 1, 3);
        place(x, 0, 2, 4);
        for (int n = 0; n < 256; n++) {
            place(x, 1, n, n);
        }
        place(x, 2, 0, 0);
        place(x, 3, 0, 255);
        place(x, 4, 0, 0);
        place(x, 5, 0, 1);
        place(x, 5, 254, 255);
    }

    private static void tooFewTrue() {
        for (int trues = 0; trues <= 256; trues++) {
            Subject x = Subject.with("0".repeat(256 - trues) + "1".repeat(trues));
            if (trues > 0) {
                place(x, 0, trues - 1, 255);
            }
            place(x, 0, trues, BitVectorWords.BAD_INDEX);
            place(x, 0, trues + 1, BitVectorWords.BAD_INDEX);
        }
        Subject x = Subject.with("0101100", "000", "");
        place(x, 0, 3, BitVectorWords.BAD_INDEX);
        place(x, 1, 0, BitVectorWords.BAD_INDEX);
    }

    private static void noSuchNumber() {
        for (int length : Edges.LENGTHS) {
            for (String vector : Edges.vectors(length)) {
                Subject x = Subject.amongTrue(1, vector);
                for (int n : Edges.outside(0, 255)) {
                    place(x, 1, n, BitVectorWords.BAD_INDEX);
                }
            }
        }
    }

    private static void emptyVector() {
        Subject x = Subject.with("", Edges.ALL_TRUE, "", Edges.ALL_TRUE, "", "");
        for (int v : new int[] {0, 2, 4, 5}) {
            for (int n : Edges.around(256)) {
                place(x, v, n, BitVectorWords.BAD_INDEX);
            }
        }
    }

    private static void cutOffElements() {
        Subject x = Subject.with(Edges.ALL_TRUE);
        x.change(0, BitVectorWords.TAKE, 0, 2);
        place(x, 0, 1, 1);
        place(x, 0, 2, BitVectorWords.BAD_INDEX);
        x.make(0, 0);
        place(x, 0, 0, BitVectorWords.BAD_INDEX);
    }

    private static void badVector() {
        for (int bad : Edges.NOT_VECTORS) {
            for (int n : new int[] {0, 1, 255, -1, 256, Edges.MIN, Edges.MAX}) {
                Scene.sixOf("11").answers(Call.place(bad, n), BitVectorWords.BAD_VECTOR);
                Scene.sixOf(Edges.ALL_TRUE).answers(Call.place(bad, n), BitVectorWords.BAD_VECTOR);
            }
        }
    }

    public static void main(String[] args) {
        Check.sentence("place: The index of the true element that has exactly n true elements before it",
            PlaceTest::indexOfTrueElement);
        Check.sentence("place: there is none, n being the number of true elements or more: BAD_INDEX",
            PlaceTest::tooFewTrue);
        Check.sentence("place: there is none, n being negative or far too large: BAD_INDEX", PlaceTest::noSuchNumber);
        Check.sentence("place: there is none, the vector having length 0: BAD_INDEX", PlaceTest::emptyVector);
        Check.sentence("place: there is none, the elements having been cut off: BAD_INDEX", PlaceTest::cutOffElements);
        Check.sentence("place: BAD_VECTOR", PlaceTest::badVector);
        Check.end();
    }
}

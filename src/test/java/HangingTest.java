import java.util.NoSuchElementException;

/** Promises 28 and 29: step, hanging. */
final class HangingTest {
    private static final Class<NoSuchElementException> NONE_SUCH = NoSuchElementException.class;

    public static void main(String[] args) {
        orders();
        chapters();
        apart();
        length();
        bits();
        Due.end();
    }

    private static TravellingPictures withHeights(int... heights) {
        TravellingPictures x = new TravellingPictures();
        x.room(0, 5000, 0, 0, 0);
        for (int height : heights) {
            x.work(0, 50, height, 0, 0);
        }
        return x;
    }

    private static void bestIs(TravellingPictures x, int bits, int step, int... works) {
        Due.is("step(0, " + bits + ")", step, x.step(0, bits));
        for (int k = 0; k < works.length; k++) {
            Due.is("hanging(0, " + bits + ", " + k + ")", works[k], x.hanging(0, bits, k));
        }
        Due.is("hanging: behind the last", -1, x.hanging(0, bits, works.length));
        Due.is("hanging: ahead of the first", -1, x.hanging(0, bits, -1));
    }

    private static void orders() {
        bestIs(withHeights(5), 1, 0, 0);
        bestIs(withHeights(5, 9), 3, 4, 0, 1);
        bestIs(withHeights(9, 5, 7), 7, 4, 0, 2, 1);
        bestIs(withHeights(5, 9, 7), 7, 4, 0, 2, 1);
        bestIs(withHeights(7, 7, 7, 7, 7, 7, 7), 127, 0, 0, 1, 2, 3, 4, 5, 6);
        bestIs(withHeights(30, 10, 20, 10, 30, 20, 500), 127, 490, 1, 3, 2, 5, 0, 4, 6);
        bestIs(withHeights(9, 1, 5, 3), 10, 2, 1, 3);
    }

    private static void chapters() {
        TravellingPictures x = new TravellingPictures();
        x.room(0, 5000, 0, 0, 0);
        int[][] heightAndChapter = {{10, 1}, {20, 2}, {11, 2}, {21, 1}, {15, 0}, {16, 0}};
        for (int[] w : heightAndChapter) {
            x.work(0, 50, w[0], 0, w[1]);
        }
        bestIs(x, 15, 21, 0, 3, 1, 2);
        bestIs(x, 48, 1, 4, 5);
        bestIs(x, 25, 16, 3, 0, 4);
        bestIs(x, 63, 26, 0, 3, 1, 2, 4, 5);
    }

    private static void apart() {
        TravellingPictures x = new TravellingPictures();
        x.room(0, 5000, 0, 0, 0);
        for (int lender = 0; lender < 4; lender++) {
            x.work(lender, 50, 10 + lender, 0, 0);
        }
        x.work(3, 50, 13, 0, 0);
        bestIs(x, 15, 3, 0, 1, 2, 3);
        Due.loan(x, "apart 8; apart 1;", 0, 0);
        bestIs(x, 15, 5, 0, 2, 1, 3);
        bestIs(x, 3, -1);
        Due.loan(x, "apart 1;", 2, 0);
        bestIs(x, 15, 5, 0, 2, 3, 1);
        bestIs(x, 7, -1);
        Due.loan(x, "apart 3;", 3, 0);
        bestIs(x, 24, -1);
        Due.loan(x, "", 3, 1);
        x.wait(24);
        bestIs(x, 24, 0, 3, 4);
    }

    private static void length() {
        TravellingPictures x = new TravellingPictures();
        x.work(0, 100, 1, 0, 0);
        x.work(0, 50, 3, 0, 0);
        x.work(0, 7, 3, 0, 0);
        int[][] lengths = {{99, 1, -1}, {100, 1, 0}, {179, 3, -1}, {180, 3, 2}, {216, 7, -1}, {217, 7, 2}};
        for (int i = 0; i < lengths.length; i++) {
            x.room(0, lengths[i][0], 0, 0, 0);
            Due.is("step in " + lengths[i][0], lengths[i][2], x.step(i, lengths[i][1]));
            Due.is("hanging in " + lengths[i][0], lengths[i][2] == -1 ? -1 : 0, x.hanging(i, lengths[i][1], 0));
        }
    }

    private static void bits() {
        TravellingPictures x = withHeights(1, 2, 3, 4, 5, 6, 7, 8);
        bestIs(x, 0, -1);
        bestIs(x, 254, 6, 1, 2, 3, 4, 5, 6, 7);
        bestIs(x, 255, -1);
        int[] none = {256, 257, 511, Integer.MIN_VALUE, -1};
        for (int bits : none) {
            Due.fails("step: bits " + bits, NONE_SUCH, () -> x.step(0, bits));
            Due.fails("hanging: bits " + bits, NONE_SUCH, () -> x.hanging(0, bits, 0));
        }
        Due.fails("step: no such room", NONE_SUCH, () -> x.step(1, 1));
        Due.fails("step: room -1", NONE_SUCH, () -> x.step(-1, 1));
        Due.fails("hanging: no such room", NONE_SUCH, () -> x.hanging(1, 1, 0));
        Due.fails("hanging: room -1", NONE_SUCH, () -> x.hanging(-1, 1, 0));
        for (int i = 8; i < 40; i++) {
            x.work(0, 1, 1, 0, 0);
        }
        bestIs(x, 1 << 30, 0, 30);
        Due.fails("the 32nd work can't be told", NONE_SUCH, () -> x.step(0, Integer.MIN_VALUE));
        TravellingPictures empty = new TravellingPictures();
        empty.room(0, 1, 0, 0, 0);
        Due.is("no bits of no works", -1, empty.step(0, 0));
        Due.fails("a bit of no works", NONE_SUCH, () -> empty.step(0, 1));
    }
}

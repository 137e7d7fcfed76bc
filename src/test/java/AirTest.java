import java.util.Arrays;
import java.util.NoSuchElementException;

/** Promises 6 to 11 and 25: room, air, sheet, row, put, tear, unknown; and AIR as "damp" sees it. */
final class AirTest {
    private static final Class<IndexOutOfBoundsException> OUTSIDE = IndexOutOfBoundsException.class;
    private static final Class<NoSuchElementException> NONE_SUCH = NoSuchElementException.class;

    public static void main(String[] args) {
        rooms();
        roomLight();
        air();
        sheets();
        rows();
        puts();
        tears();
        unknownHours();
        newRowsAreZero();
        cutNumbers();
        Due.end();
    }

    private static void rooms() {
        TravellingPictures x = new TravellingPictures();
        int[][] right = {{0, 1, 0, 0, 0}, {4, 5000, 1000, 24, 24}, {0, 1, 0, 0, 24}};
        for (int i = 0; i < right.length; i++) {
            int[] r = right[i];
            Due.is("room " + Arrays.toString(r), i, x.room(r[0], r[1], r[2], r[3], r[4]));
        }
        int[][] wrong = {{-1, 1, 0, 0, 0}, {5, 1, 0, 0, 0}, {0, 0, 0, 0, 0}, {0, 5001, 0, 0, 0}, {0, 1, -1, 0, 0},
            {0, 1, 1001, 0, 0}, {0, 1, 0, -1, 0}, {0, 1, 0, 0, 25}, {0, 1, 0, 25, 25}, {0, 1, 0, 6, 5},
            {0, 1, 0, 0, -1}};
        for (int[] r : wrong) {
            Due.fails("room " + Arrays.toString(r), IllegalArgumentException.class,
                    () -> x.room(r[0], r[1], r[2], r[3], r[4]));
        }
        for (int i = 3; i < 20; i++) {
            Due.is("room " + i, i, x.room(0, 1, 0, 0, 0));
        }
        Due.is("a 21st room", -1, x.room(0, 1, 0, 0, 0));
        Due.fails("a 21st room that is none", IllegalArgumentException.class, () -> x.room(5, 1, 0, 0, 0));
        Due.is("20 rooms", 20, x.count(1));
    }

    private static void roomLight() {
        int[][] openAndShut = {{0, 24}, {9, 17}, {5, 5}, {0, 0}, {24, 24}, {23, 24}};
        for (int[] hours : openAndShut) {
            TravellingPictures x = new TravellingPictures();
            Due.stored(x, 0, 10, 10, 0, 0);
            x.wait(23);
            x.room(0, 100, 3, hours[0], hours[1]);
            x.hang(0, 0);
            int due = 0;
            for (int hour = 0; hour < 24; hour++) {
                x.wait(1);
                due += hour >= hours[0] && hour < hours[1] ? 3 : 0;
                Due.is("light behind hour " + hour + " of " + Arrays.toString(hours), due, x.told(0, 7));
            }
        }
    }

    private static void air() {
        TravellingPictures x = new TravellingPictures();
        x.room(0, 100, 0, 0, 24);
        x.sheet();
        Due.is("air of a missing row", 1, x.air(0, 0, 9));
        Due.is("air again", 1, x.air(0, 0, 0));
        Due.fails("air: no such room", NONE_SUCH, () -> x.air(1, 0, 0));
        Due.fails("air: room -1", NONE_SUCH, () -> x.air(-1, 0, 0));
        Due.fails("air: no room and no sheet", NONE_SUCH, () -> x.air(1, 1, 0));
        Due.fails("air: no such sheet", OUTSIDE, () -> x.air(0, 1, 0));
        Due.fails("air: sheet -1", OUTSIDE, () -> x.air(0, -1, 0));
        Due.fails("air: row 10", OUTSIDE, () -> x.air(0, 0, 10));
        Due.fails("air: row -1", OUTSIDE, () -> x.air(0, 0, -1));
    }

    private static void sheets() {
        TravellingPictures x = new TravellingPictures();
        for (int i = 0; i < 4; i++) {
            Due.is("sheet " + i, i, x.sheet());
        }
        Due.is("a fifth sheet", -1, x.sheet());
        Due.is("4 sheets", 4, x.count(2));
        Due.is("a row of one sheet", 5, x.row(3, 9, 5));
        Due.is("is none of another", 0, x.tear(2, 9));
        Due.is("nor another of it", 0, x.tear(3, 8));
        Due.is("but it is there", 1, x.tear(3, 9));
    }

    private static void rows() {
        TravellingPictures x = new TravellingPictures();
        x.sheet();
        Due.is("row of none", 0, x.row(0, 0, 0));
        Due.is("row of 24", 24, x.row(0, 1, 24));
        Due.is("row of 25", -1, x.row(0, 1, 25));
        Due.is("row of -1", -1, x.row(0, 1, -1));
        Due.is("which leaves the row", 1, x.put(0, 1, 23, 0));
        Due.is("row of -1 where none is", -1, x.row(0, 2, -1));
        Due.is("brings none", 0, x.tear(0, 2));
        Due.fails("row: no such sheet", OUTSIDE, () -> x.row(1, 0, 1));
        Due.fails("row: sheet -1", OUTSIDE, () -> x.row(-1, 0, 1));
        Due.fails("row: row 10", OUTSIDE, () -> x.row(0, 10, 1));
        Due.fails("row: row -1 of 25", OUTSIDE, () -> x.row(0, -1, 25));
        Due.is("a row of none is not missing", 1, x.tear(0, 0));
    }

    private static void puts() {
        TravellingPictures x = new TravellingPictures();
        x.sheet();
        Due.is("put: missing", -1, x.put(0, 0, 0, 1));
        Due.is("put: missing, and no place", -1, x.put(0, 0, -1, 1));
        x.row(0, 0, 3);
        Due.is("put: first", 1, x.put(0, 0, 0, 1));
        Due.is("put: last", 1, x.put(0, 0, 2, -1));
        Due.is("put: behind", -2, x.put(0, 0, 3, 1));
        Due.is("put: ahead", -2, x.put(0, 0, -1, 1));
        Due.fails("put: no such sheet", OUTSIDE, () -> x.put(1, 0, 0, 0));
        Due.fails("put: row 10", OUTSIDE, () -> x.put(0, 10, 0, 0));
        Due.fails("put: row -1", OUTSIDE, () -> x.put(0, -1, 0, 0));
        x.row(0, 0, 2);
        Due.is("put: the row is shorter now", -2, x.put(0, 0, 2, 1));
    }

    private static void tears() {
        TravellingPictures x = new TravellingPictures();
        x.sheet();
        Due.is("tear: missing", 0, x.tear(0, 4));
        x.row(0, 4, 1);
        Due.is("tear: there", 1, x.tear(0, 4));
        Due.is("tear: torn", 0, x.tear(0, 4));
        Due.is("put: torn", -1, x.put(0, 4, 0, 0));
        Due.fails("tear: no such sheet", OUTSIDE, () -> x.tear(1, 0));
        Due.fails("tear: sheet -1", OUTSIDE, () -> x.tear(-1, 0));
        Due.fails("tear: row 10", OUTSIDE, () -> x.tear(0, 10));
        Due.fails("tear: row -1", OUTSIDE, () -> x.tear(0, -1));
    }

    private static void unknownHours() {
        TravellingPictures x = new TravellingPictures();
        Due.stored(x, 0, 10, 10, 0, 0);
        Due.stored(x, 0, 10, 10, 0, 0);
        x.wait(22);
        x.room(0, 100, 0, 0, 24);
        x.room(0, 100, 0, 0, 24);
        x.wait(5);
        Due.is("nothing hangs", 0, x.unknown(0));
        x.wait(19);
        x.hang(0, 0);
        x.hang(1, 0);
        x.wait(3);
        Due.is("no row is told; once an hour", 3, x.unknown(0));
        Due.is("the other room", 0, x.unknown(1));
        x.sheet();
        x.air(0, 0, 0);
        x.wait(1);
        Due.is("the row is missing", 4, x.unknown(0));
        x.row(0, 0, 6);
        x.wait(2);
        Due.is("the row is there", 4, x.unknown(0));
        x.wait(3);
        Due.is("the row ends", 7, x.unknown(0));
        x.wait(15);
        Due.is("to the end of the day", 22, x.unknown(0));
        x.wait(6);
        Due.is("the next day", 22, x.unknown(0));
        x.tear(0, 0);
        x.wait(1);
        Due.is("torn", 23, x.unknown(0));
        Due.fails("unknown(2)", NONE_SUCH, () -> x.unknown(2));
        Due.fails("unknown(-1)", NONE_SUCH, () -> x.unknown(-1));
    }

    private static void newRowsAreZero() {
        TravellingPictures x = new TravellingPictures();
        Due.loan(x, "damp 0-0;", 0, 0);
        Due.stored(x, 0, 10, 10, 0, 0);
        x.wait(23);
        x.room(0, 100, 0, 0, 24);
        x.hang(0, 0);
        x.sheet();
        x.row(0, 3, 24);
        x.row(0, 4, 24);
        x.air(0, 0, 3);
        for (int i = 0; i < 24; i++) {
            x.put(0, 3, i, Float.floatToIntBits(5f));
            x.put(0, 4, i, Float.floatToIntBits(5f));
        }
        x.wait(24);
        Due.is("all breached", 24, x.breaches());
        x.row(0, 3, 24);
        x.wait(24);
        Due.is("a new row is all 0", 24, x.breaches());
        x.row(0, 3, 0);
        x.wait(24);
        Due.is("a row of none tells nothing", 24, x.unknown(0));
        x.air(0, 0, 4);
        x.wait(1);
        Due.is("the row beside it stays", 25, x.breaches());
        x.put(0, 4, 1, Float.floatToIntBits(1f / 2));
        x.wait(1);
        Due.is("a half is cut", 25, x.breaches());
    }

    /** Each number is put to a room and told by whether "damp N - N" is breached by it. */
    private static void cutNumbers() {
        float[] numbers = {0f, -0f, 0.99f, 1f, 1.5f, 39.9f, 40f, 40.99f, 999999f, 999998.9f, 8388607.5f, 8388608f,
            16777217f, 2.1e9f, 2147483648f, 3e9f, -0.99f, -1f, -5.5f, -2147483648f, -3e9f, Float.MIN_VALUE,
            Float.MAX_VALUE, Float.POSITIVE_INFINITY, Float.NEGATIVE_INFINITY};
        for (float number : numbers) {
            int cut = (int) number;
            int[][] ranges = {{0, 999999}, {cut, cut}, {cut, cut - 1}, {cut + 1, cut + 1}, {0, cut}, {cut, 999999}};
            for (int[] range : ranges) {
                if (range[0] >= 0 && range[0] <= 999999 && range[1] >= 0 && range[1] <= 999999) {
                    int due = cut < range[0] || cut > range[1] ? 1 : 0;
                    Due.is("damp " + range[0] + " - " + range[1] + " in " + number, due,
                            breachesOfDamp(range[0], range[1], Float.floatToRawIntBits(number)));
                }
            }
        }
        int[] noNumbers = {0x7fc00000, 0x7f800001, 0x7fffffff, 0xffc00000, 0xff800001, -1};
        for (int bits : noNumbers) {
            Due.is("damp 0 - 999999 in NaN of " + Integer.toHexString(bits), 1, breachesOfDamp(0, 999999, bits));
        }
    }

    private static int breachesOfDamp(int least, int most, int bits) {
        TravellingPictures x = new TravellingPictures();
        Due.loan(x, "damp " + least + "-" + most + ";", 0, 0);
        Due.stored(x, 0, 10, 10, 0, 0);
        x.room(0, 100, 0, 0, 24);
        x.hang(0, 0);
        x.sheet();
        x.row(0, 0, 2);
        x.put(0, 0, 1, bits);
        x.air(0, 0, 0);
        x.wait(1);
        Due.is("AIR is known", 0, x.unknown(0));
        return x.breaches();
    }
}

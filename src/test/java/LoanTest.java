import java.util.NoSuchElementException;

/** Promises 12 to 15: feed, loan, force, barred. */
final class LoanTest {
    private static final Class<IllegalArgumentException> WRONG = IllegalArgumentException.class;

    public static void main(String[] args) {
        feed();
        highestByteFirst();
        texts();
        noTexts();
        nothingBehindTheFirstBytes();
        wrongLoans();
        thirtyLoans();
        force();
        barred();
        Due.end();
    }

    private static void feed() {
        TravellingPictures x = new TravellingPictures();
        for (int i = 1; i <= 10; i++) {
            Due.is("feed " + i, 20 * i, x.feed(0x20202020, 0x20202020, 0x20202020, 0x20202020, 0x20202020));
        }
        Due.is("an 11th feed", -1, x.feed(0, 0, 0, 0, 0));
        Due.is("does nothing", 200, x.count(6));
        Due.is("200 blanks are a text", 0, x.loan(200, 0, 0));
        Due.is("the tape is empty then", 0, x.count(6));
        Due.is("feed again", 20, x.feed(0, 0, 0, 0, 0));
    }

    private static void highestByteFirst() {
        TravellingPictures x = new TravellingPictures();
        x.feed(0x72657374, 0x20312320, 0, 0, 0);
        Due.is("rest 1# fails at #", -2 - 6, x.loan(8, 0, 0));
        x.feed(0x20202020, 0x20202020, 0x20202020, 0x20202020, 0x20202080);
        Due.is("the last byte of a feed", -2 - 19, x.loan(20, 0, 0));
    }

    private static void texts() {
        String ten = "rest 1;rest 1;rest 1;rest 1;rest 1;rest 1;rest 1;rest 1;rest 1;rest 1;";
        String[] texts = {"", " ", "rest 0;", "rest1;", "rest 000001;", "until 999999;", "light 999999 ;",
            "damp 0-0;", "damp 999999-1;", "damp5 -6;", "damp 5- 6;", "cities 0;", "cities 0 1 2 3 4;",
            "cities 4 4 000004;", "cities0 1;", " cities  3  2 ; ", "apart 9;", "apart 0;apart 0;", "rest 1;until 2;",
            "rest 1 ; until 2 ; ", ten, ten + "   "};
        for (String text : texts) {
            TravellingPictures x = new TravellingPictures();
            Due.is("text '" + text + "'", 0, Due.loan(x, text, 0, 0));
            Due.is("behind '" + text + "'", 1, x.count(3));
        }
    }

    private static void noTexts() {
        String ten = "rest 1;rest 1;rest 1;rest 1;rest 1;rest 1;rest 1;rest 1;rest 1;rest 1;";
        fault(";", 0);
        fault("5", 0);
        fault(" -", 1);
        fault("Rest 1;", 0);
        fault("resT 1;", 0);
        fault("xest 1;", 0);
        fault("restz 1;", 0);
        fault("until 1; zrest 1;", 9);
        fault("  rests 1;", 2);
        fault("res", 0);
        fault("rest", 4);
        fault("rest ", 5);
        fault("rest 1", 6);
        fault("rest 1  ", 8);
        fault("rest 1 2;", 7);
        fault("rest ;", 5);
        fault("rest -1;", 5);
        fault("rest x;", 5);
        fault("rest 1x;", 6);
        fault("rest 1,", 6);
        fault("rest 1;;", 7);
        fault("rest 1; x", 8);
        fault("rest 1;\0", 7);
        fault("rest\t1;", 4);
        fault("rest 1\u00b2;", 6);
        fault("rest 1000000;", 11);
        fault("rest 0000001;", 11);
        fault("until;", 5);
        fault("light 5", 7);
        fault("cities;", 6);
        fault("cities", 6);
        fault("cities 5;", 7);
        fault("cities 0 5;", 9);
        fault("cities 0 10;", 9);
        fault("cities 0 1", 10);
        fault("cities 0 1 ", 11);
        fault("cities 0,1;", 8);
        fault("cities 0-1;", 8);
        fault("cities 0 a;", 9);
        fault("cities 0000001;", 13);
        fault("apart 10;", 6);
        fault("apart 1 2;", 8);
        fault("damp;", 4);
        fault("damp 1;", 6);
        fault("damp 1", 6);
        fault("damp 1 2;", 7);
        fault("damp 1-;", 7);
        fault("damp 1-", 7);
        fault("damp -1;", 5);
        fault("damp 1--2;", 7);
        fault("damp 1-2", 8);
        fault("damp 1-2-3;", 8);
        fault("damp 1-1234567;", 13);
        fault(ten + "rest 1;", 70);
        fault(ten + " rest 1;", 71);
        fault(ten + "foo", 70);
        fault(ten + ";", 70);
    }

    private static void fault(String text, int place) {
        TravellingPictures x = new TravellingPictures();
        Due.is("text '" + text + "'", -2 - place, Due.loan(x, text, 0, 0));
        Due.is("no loan by '" + text + "'", 0, x.count(3));
        Due.is("an empty tape behind '" + text + "'", 0, x.count(6));
        Due.is("nothing in force behind '" + text + "'", -1, x.force(0, 0));
    }

    /** The tape goes on behind the first n bytes, but the text ends there. */
    private static void nothingBehindTheFirstBytes() {
        String tape = "rest 12;damp 34-56;";
        int[] due = {0, -2, -2, -2, -6, -7, -8, -9, 0, -10, -10, -10, -14, -15, -16, -17, -18, -19, -20, 0};
        for (int n = 0; n < due.length; n++) {
            TravellingPictures x = new TravellingPictures();
            Due.feed(x, tape);
            Due.is("the first " + n + " bytes of " + tape, due[n], x.loan(n, 0, 0));
        }
    }

    private static void wrongLoans() {
        TravellingPictures x = new TravellingPictures();
        Due.fails("more than the empty tape", WRONG, () -> x.loan(1, 0, 0));
        x.feed(0, 0, 0, 0, 0);
        int[][] wrong = {{-1, 0, 0}, {21, 0, 0}, {0, -1, 0}, {0, 10, 0}, {0, 0, -1}, {0, 0, 10001}};
        for (int[] w : wrong) {
            Due.fails("loan " + java.util.Arrays.toString(w), WRONG, () -> x.loan(w[0], w[1], w[2]));
        }
        Due.is("a refused loan leaves the tape", 20, x.count(6));
        Due.is("the last lender and day", 0, x.loan(0, 9, 10000));
        Due.is("and takes all of the tape", 0, x.count(6));
    }

    private static void thirtyLoans() {
        TravellingPictures x = new TravellingPictures();
        for (int i = 0; i < 30; i++) {
            Due.is("loan " + i, i, x.loan(0, i % 10, 0));
        }
        x.feed(0, 0, 0, 0, 0);
        Due.fails("a 31st loan", IllegalStateException.class, () -> x.loan(0, 0, 0));
        Due.fails("a 31st loan of no text", IllegalStateException.class, () -> x.loan(1, 0, 0));
        Due.fails("a 31st loan of no lender", WRONG, () -> x.loan(0, 10, 0));
        Due.is("a refused loan leaves the tape", 20, x.count(6));
        Due.is("30 loans", 30, x.count(3));
        Due.is("the one told last", 29, x.force(9, 0));
    }

    private static void force() {
        TravellingPictures x = new TravellingPictures();
        x.loan(0, 3, 5);
        x.loan(0, 3, 9);
        x.loan(0, 3, 2);
        x.loan(0, 4, 7);
        x.loan(0, 3, 5);
        int[][] due = {{3, 1, -1}, {3, 2, 2}, {3, 4, 2}, {3, 5, 4}, {3, 8, 4}, {3, 9, 1}, {3, 10000, 1}, {3, 10001, 1},
            {3, Integer.MAX_VALUE, 1}, {3, -1, -1}, {3, Integer.MIN_VALUE, -1}, {4, 6, -1}, {4, 7, 3}, {5, 7, -1},
            {10, 7, -1}, {-1, 7, -1}, {Integer.MIN_VALUE, 0, -1}};
        for (int[] d : due) {
            Due.is("force(" + d[0] + ", " + d[1] + ")", d[2], x.force(d[0], d[1]));
        }
    }

    private static void barred() {
        TravellingPictures x = new TravellingPictures();
        Due.stored(x, 2, 10, 10, 0, 1);
        x.work(3, 10, 10, 0, 0);
        Due.is("without a loan", -1, x.barred(0, 0, 0));
        Due.loan(x, "rest 5; damp 1-0; apart 2; light 100; cities 1 3; until 7; cities 1 2 3;", 2, 2);
        Due.is("ahead of the loan", -1, x.barred(0, 0, 1));
        Due.is("ahead of all days", -1, x.barred(0, 0, -1));
        Due.is("in a city", -1, x.barred(0, 1, 7));
        Due.is("in another city", -1, x.barred(0, 3, 2));
        Due.is("in none of them", 4, x.barred(0, 0, 2));
        Due.is("of the first cities alone", 4, x.barred(0, 2, 2));
        Due.is("too late", 5, x.barred(0, 1, 8));
        Due.is("too late in none of them", 4, x.barred(0, 4, 8));
        Due.is("another lender", -1, x.barred(1, 0, 8));
        x.room(1, 100, 100, 0, 24);
        x.hang(0, 0);
        x.wait(1);
        Due.is("light is not above", -1, x.barred(0, 1, 2));
        x.wait(1);
        Due.is("light is above", 3, x.barred(0, 1, 2));
        Due.is("light is above, in none of them", 3, x.barred(0, 0, 9));
        Due.fails("barred: city 5", WRONG, () -> x.barred(0, 5, 0));
        Due.fails("barred: city -1", WRONG, () -> x.barred(0, -1, 0));
        Due.fails("barred: no such work", NoSuchElementException.class, () -> x.barred(2, 0, 0));
        Due.fails("barred: no work and no city", NoSuchElementException.class, () -> x.barred(-1, 5, 0));
    }
}

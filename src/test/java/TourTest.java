import java.util.NoSuchElementException;

/** Promises 30 and 31: gain, tour. */
final class TourTest {
    private static final Class<IllegalArgumentException> WRONG = IllegalArgumentException.class;

    public static void main(String[] args) {
        gain();
        withoutLoan();
        ties();
        cities();
        light();
        todaysLoan();
        Due.end();
    }

    private static void gain() {
        TravellingPictures x = new TravellingPictures();
        Due.is("least", 1, x.gain(0, 0, 0));
        Due.is("greatest", 1, x.gain(4, 1000000, 10000));
        int[][] wrong = {{-1, 0, 0}, {5, 0, 0}, {0, -1, 0}, {0, 1000001, 0}, {0, 0, -1}, {0, 0, 10001}};
        for (int[] w : wrong) {
            Due.fails("gain " + java.util.Arrays.toString(w), WRONG, () -> x.gain(w[0], w[1], w[2]));
        }
        x.work(0, 1, 1, 0, 0);
        Due.is("a refused gain does nothing", 16, x.tour(0));
        x.gain(4, 0, 0);
        Due.is("a gain comes in place of one", 0, x.tour(0));
        Due.fails("tour: no such work", NoSuchElementException.class, () -> x.tour(1));
        Due.fails("tour: work -1", NoSuchElementException.class, () -> x.tour(-1));
    }

    private static TravellingPictures withGains(int... useAndGain) {
        TravellingPictures x = new TravellingPictures();
        for (int city = 0; city < 5; city++) {
            x.gain(city, useAndGain[2 * city], useAndGain[2 * city + 1]);
        }
        x.work(0, 1, 1, 0, 0);
        return x;
    }

    private static void withoutLoan() {
        Due.is("nothing is gained", 0, withGains(0, 0, 0, 0, 0, 0, 0, 0, 0, 0).tour(0));
        Due.is("all", 31, withGains(1000000, 1, 1000000, 1, 1000000, 1, 1000000, 1, 1000000, 1).tour(0));
        Due.is("those that gain", 20, withGains(0, 0, 0, 0, 9, 1, 0, 0, 9, 1).tour(0));
    }

    private static void ties() {
        TravellingPictures x = withGains(10, 5, 10, 5, 20, 10, 20, 10, 5, 1);
        Due.loan(x, "light 20;", 0, 0);
        Due.is("the fewest, then the least", 4, x.tour(0));
        Due.loan(x, "light 10;", 0, 0);
        Due.is("the least number", 1, x.tour(0));
        Due.loan(x, "light 30;", 0, 0);
        Due.is("two", 5, x.tour(0));
        Due.loan(x, "light 4;", 0, 0);
        Due.is("nothing may be", 0, x.tour(0));
    }

    private static void cities() {
        TravellingPictures x = withGains(0, 1, 0, 2, 0, 4, 0, 8, 0, 16);
        Due.loan(x, "cities 0 2 3;", 0, 0);
        Due.is("some", 13, x.tour(0));
        Due.loan(x, "cities 0 2 3; until 0; cities 3 0 1;", 0, 0);
        Due.is("some of two clauses", 9, x.tour(0));
        Due.loan(x, "cities 0; cities 1;", 0, 0);
        Due.is("none of two clauses", 0, x.tour(0));
        Due.loan(x, "until 0;", 0, 0);
        x.wait(48);
        Due.is("until bars no tour", 31, x.tour(0));
    }

    private static void light() {
        TravellingPictures x = withGains(30, 3, 20, 2, 10, 1, 0, 0, 0, 0);
        Due.loan(x, "light 60;", 0, 0);
        Due.is("all", 7, x.tour(0));
        Due.loan(x, "light 90; light 59; light 70;", 0, 0);
        Due.is("the least light", 3, x.tour(0));
        x.crate(1, 1);
        x.pack(0, 0);
        x.send(0, 0, 1);
        x.wait(1);
        x.unpack(0);
        x.room(0, 1, 10, 0, 24);
        x.hang(0, 0);
        x.wait(1);
        Due.is("light 10 together with 50 is above 59", 5, x.tour(0));
        Due.loan(x, "light 60;", 0, 0);
        Due.is("and with 60 it is not", 3, x.tour(0));
        x.wait(6);
        Due.is("light is 70", 0, x.tour(0));
        x.gain(4, 0, 1);
        Due.is("which a city without use can't mend", 0, x.tour(0));
        Due.loan(x, "light 70;", 0, 0);
        Due.is("at light 70 it may be", 16, x.tour(0));
    }

    private static void todaysLoan() {
        TravellingPictures x = withGains(0, 1, 0, 2, 0, 4, 0, 8, 0, 16);
        Due.loan(x, "cities 0;", 0, 0);
        Due.loan(x, "cities 1;", 0, 1);
        Due.loan(x, "cities 2;", 1, 0);
        Due.is("day 0", 1, x.tour(0));
        x.wait(23);
        Due.is("still day 0", 1, x.tour(0));
        x.wait(1);
        Due.is("day 1", 2, x.tour(0));
    }
}

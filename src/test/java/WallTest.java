import java.util.NoSuchElementException;

/** Promises 21 to 24, 26 and 27: hang, down, wall, wait, breaches, breach. */
final class WallTest {
    private static final Class<IllegalArgumentException> WRONG = IllegalArgumentException.class;
    private static final Class<NoSuchElementException> NONE_SUCH = NoSuchElementException.class;

    public static void main(String[] args) {
        hang();
        hangLength();
        hangBarred();
        hangApart();
        hangOrderOfRefusals();
        downAndWall();
        hours();
        lightBreaches();
        untilBreaches();
        dampBreaches();
        breachesOfTheDaysLoan();
        orderOfBreaches();
        fullBook();
        Due.end();
    }

    private static void hang() {
        TravellingPictures x = new TravellingPictures();
        x.room(2, 1000, 0, 0, 0);
        x.work(0, 10, 10, 0, 0);
        x.crate(10, 10);
        Due.is("from home", -1, x.hang(0, 0));
        x.pack(0, 0);
        Due.is("from a crate", -1, x.hang(0, 0));
        x.send(0, 2, 1);
        x.wait(1);
        Due.is("from a crate there", -1, x.hang(0, 0));
        x.unpack(0);
        x.room(0, 1000, 0, 0, 0);
        Due.is("elsewhere", -1, x.hang(0, 1));
        Due.is("from the store there", 1, x.hang(0, 0));
        Due.is("from the wall", -1, x.hang(0, 0));
        Due.stored(x, 0, 10, 10, 0, 2);
        Due.is("a second", 2, x.hang(1, 0));
        Due.fails("hang: no such work", NONE_SUCH, () -> x.hang(2, 0));
        Due.fails("hang: work -1", NONE_SUCH, () -> x.hang(-1, 0));
        Due.fails("hang: no such room", NONE_SUCH, () -> x.hang(0, 2));
        Due.fails("hang: room -1", NONE_SUCH, () -> x.hang(0, -1));
    }

    private static void hangLength() {
        TravellingPictures x = new TravellingPictures();
        int[] widths = {100, 50, 7};
        for (int width : widths) {
            Due.stored(x, 0, width, 1, 0, 0);
        }
        x.room(0, 99, 0, 0, 0);
        x.room(0, 100, 0, 0, 0);
        x.room(0, 179, 0, 0, 0);
        x.room(0, 217, 0, 0, 0);
        x.room(0, 216, 0, 0, 0);
        Due.is("one work, 99", -3, x.hang(0, 0));
        Due.is("one work, 100", 1, x.hang(0, 1));
        x.down(0);
        x.hang(0, 2);
        Due.is("two works, 179", -3, x.hang(1, 2));
        x.down(0);
        x.hang(0, 4);
        Due.is("two works, 216", 2, x.hang(1, 4));
        Due.is("three works, 216", -3, x.hang(2, 4));
        x.down(0);
        x.down(1);
        x.hang(0, 3);
        x.hang(1, 3);
        Due.is("three works, 217", 3, x.hang(2, 3));
    }

    private static void hangBarred() {
        TravellingPictures x = new TravellingPictures();
        Due.stored(x, 0, 10, 10, 0, 1);
        x.room(1, 100, 10, 0, 24);
        Due.loan(x, "cities 0;", 0, 0);
        Due.is("no such city", -2, x.hang(0, 0));
        Due.loan(x, "until 0;", 0, 0);
        Due.is("day 0", 1, x.hang(0, 0));
        x.wait(3);
        x.down(0);
        x.wait(20);
        Due.is("day 1", -2, x.hang(0, 0));
        Due.loan(x, "light 29;", 0, 1);
        Due.is("too much light", -2, x.hang(0, 0));
        Due.loan(x, "light 30;", 0, 1);
        Due.is("not too much", 1, x.hang(0, 0));
    }

    private static void hangApart() {
        TravellingPictures x = new TravellingPictures();
        for (int lender = 0; lender < 4; lender++) {
            Due.stored(x, lender, 10, 10, 0, 0);
        }
        Due.stored(x, 3, 10, 10, 0, 0);
        x.room(0, 1000, 0, 0, 0);
        x.room(0, 1000, 0, 0, 0);
        Due.loan(x, "apart 5; apart 1;", 0, 0);
        Due.loan(x, "apart 3;", 3, 0);
        x.hang(0, 0);
        Due.is("the loan of one that hangs", -4, x.hang(1, 0));
        Due.is("another lender", 2, x.hang(2, 0));
        Due.is("its own lender, alone", 3, x.hang(3, 0));
        Due.is("its own lender, twice", -4, x.hang(4, 0));
        Due.is("another room", 1, x.hang(1, 1));
        x.down(0);
        Due.is("its own loan", -4, x.hang(0, 1));
        x.loan(0, 0, 1);
        x.wait(24 - x.count(5));
        Due.is("today's loan", 2, x.hang(0, 1));
    }

    private static void hangOrderOfRefusals() {
        TravellingPictures x = new TravellingPictures();
        Due.stored(x, 0, 10, 10, 0, 0);
        Due.stored(x, 1, 400, 10, 0, 0);
        x.room(0, 400, 0, 0, 0);
        x.hang(0, 0);
        Due.loan(x, "apart 0; cities 1;", 1, 0);
        Due.is("barred ahead of too short", -2, x.hang(1, 0));
        Due.loan(x, "apart 0;", 1, 0);
        Due.is("too short ahead of apart", -3, x.hang(1, 0));
    }

    private static void downAndWall() {
        TravellingPictures x = new TravellingPictures();
        for (int i = 0; i < 4; i++) {
            Due.stored(x, 0, 10, 10, 0, 3);
        }
        x.room(0, 1000, 0, 0, 0);
        x.room(3, 1000, 0, 0, 0);
        Due.is("not hung", -1, x.down(0));
        int[] order = {2, 0, 3, 1};
        for (int work : order) {
            x.hang(work, 1);
        }
        wallIs(x, 1, order);
        wallIs(x, 0);
        Due.is("down from the middle", 3, x.down(0));
        Due.is("to the store of the city", 13, x.lead(0, x.count(5)));
        wallIs(x, 1, 2, 3, 1);
        Due.is("down twice", -1, x.down(0));
        Due.is("up again", 4, x.hang(0, 1));
        wallIs(x, 1, 2, 3, 1, 0);
        Due.is("down from the left", 3, x.down(2));
        Due.is("down from the right", 2, x.down(0));
        wallIs(x, 1, 3, 1);
        x.down(3);
        Due.is("the last one", 0, x.down(1));
        wallIs(x, 1);
        Due.fails("down: no such work", NONE_SUCH, () -> x.down(4));
        Due.fails("down: work -1", NONE_SUCH, () -> x.down(-1));
        Due.fails("wall: no such room", NONE_SUCH, () -> x.wall(2, 0));
        Due.fails("wall: room -1", NONE_SUCH, () -> x.wall(-1, 0));
    }

    private static void wallIs(TravellingPictures x, int room, int... works) {
        for (int k = 0; k < works.length; k++) {
            Due.is("wall(" + room + ", " + k + ")", works[k], x.wall(room, k));
        }
        Due.is("wall: behind the last", -1, x.wall(room, works.length));
        Due.is("wall: ahead of the first", -1, x.wall(room, -1));
    }

    private static void hours() {
        TravellingPictures x = new TravellingPictures();
        Due.is("wait(0)", 0, x.wait(0));
        Due.is("wait(1)", 1, x.wait(1));
        Due.is("wait(1000)", 1001, x.wait(1000));
        Due.fails("wait(1001)", WRONG, () -> x.wait(1001));
        Due.fails("wait(-1)", WRONG, () -> x.wait(-1));
        Due.waitFor(x, 198999);
        Due.fails("beyond 200,000", IllegalStateException.class, () -> x.wait(1));
        Due.fails("by 0 at the end", WRONG, () -> x.wait(1001));
        Due.is("wait(0) at the end", 200000, x.wait(0));
        Due.is("the hour stays", 200000, x.count(5));
    }

    private static void lightBreaches() {
        TravellingPictures x = new TravellingPictures();
        Due.loan(x, "light 50; light 49; light 0;", 0, 0);
        Due.stored(x, 0, 10, 10, 0, 0);
        x.room(0, 100, 10, 0, 24);
        x.hang(0, 0);
        x.wait(4);
        breachesAre(x, 1, 0, 2);
        x.wait(1);
        breachesAre(x, 1, 0, 2, 5, 0, 1);
        x.wait(1);
        breachesAre(x, 1, 0, 2, 5, 0, 1, 6, 0, 0);
        x.wait(100);
        breachesAre(x, 1, 0, 2, 5, 0, 1, 6, 0, 0);
        Due.loan(x, "light 51; light 1060;", 0, 0);
        x.wait(1);
        breachesAre(x, 1, 0, 2, 5, 0, 1, 6, 0, 0, 107, 0, 1);
    }

    private static void untilBreaches() {
        TravellingPictures x = new TravellingPictures();
        Due.loan(x, "until 1;", 0, 0);
        Due.stored(x, 0, 10, 10, 0, 0);
        x.room(0, 100, 0, 0, 0);
        x.hang(0, 0);
        x.wait(47);
        breachesAre(x);
        x.wait(1);
        breachesAre(x, 48, 0, 0);
        x.wait(23);
        breachesAre(x, 48, 0, 0);
        x.wait(1);
        breachesAre(x, 48, 0, 0, 72, 0, 0);
        x.down(0);
        x.wait(48);
        breachesAre(x, 48, 0, 0, 72, 0, 0);
    }

    private static void dampBreaches() {
        TravellingPictures x = new TravellingPictures();
        Due.loan(x, "damp 40-60; damp 60-40; damp 0-999999;", 0, 0);
        Due.stored(x, 0, 10, 10, 0, 0);
        x.room(0, 100, 0, 0, 0);
        x.hang(0, 0);
        x.wait(1);
        breachesAre(x);
        x.sheet();
        x.row(0, 5, 8);
        x.air(0, 0, 5);
        float[] numbers = {39.5f, 40f, 60.5f, 61f, Float.NaN, -1f};
        for (int i = 0; i < numbers.length; i++) {
            x.put(0, 5, 2 + i, Float.floatToIntBits(numbers[i]));
        }
        x.wait(20);
        breachesAre(x, 2, 0, 0, 2, 0, 1, 3, 0, 1, 4, 0, 1, 5, 0, 0, 5, 0, 1,
                6, 0, 0, 6, 0, 1, 6, 0, 2, 7, 0, 0, 7, 0, 1, 7, 0, 2);
    }

    private static void breachesOfTheDaysLoan() {
        TravellingPictures x = new TravellingPictures();
        Due.stored(x, 4, 10, 10, 0, 0);
        x.room(0, 100, 0, 0, 0);
        x.hang(0, 0);
        x.loan(0, 4, 2);
        Due.loan(x, "rest 0; until 0;", 4, 1);
        Due.loan(x, "until 0;", 5, 0);
        Due.loan(x, "until 2;", 4, 3);
        x.wait(100);
        breachesAre(x, 24, 0, 1, 72, 0, 0, 96, 0, 0);
    }

    /** Works bear an hour in the order of their numbers, whatever the room and the place on its wall. */
    private static void orderOfBreaches() {
        TravellingPictures x = new TravellingPictures();
        Due.loan(x, "until 0; light 0;", 0, 0);
        for (int i = 0; i < 3; i++) {
            Due.stored(x, 0, 10, 10, 0, 0);
        }
        x.room(0, 100, 1, 0, 1);
        x.room(0, 100, 1, 0, 1);
        x.hang(2, 0);
        x.hang(1, 1);
        x.hang(0, 0);
        x.wait(24);
        breachesAre(x, 24, 0, 0, 24, 0, 1, 24, 1, 0, 24, 1, 1, 24, 2, 0, 24, 2, 1);
    }

    private static void fullBook() {
        TravellingPictures x = new TravellingPictures();
        Due.loan(x, "damp 1-0;", 0, 0);
        Due.stored(x, 0, 10, 10, 0, 0);
        x.room(0, 100, 0, 0, 0);
        x.hang(0, 0);
        x.sheet();
        x.row(0, 0, 24);
        x.air(0, 0, 0);
        x.wait(199);
        Due.is("199 breaches", 199, x.breaches());
        Due.is("the 200th is none yet", -1, x.breach(199, 0));
        x.wait(101);
        Due.is("300 breaches", 300, x.breaches());
        Due.is("the 200th", 200, x.breach(199, 0));
        for (int what = 0; what < 3; what++) {
            Due.is("the 201st is not kept", -1, x.breach(200, what));
            Due.is("breach(-1)", -1, x.breach(-1, what));
        }
        Due.fails("breach: what 3", WRONG, () -> x.breach(0, 3));
        Due.fails("breach: what -1", WRONG, () -> x.breach(0, -1));
        Due.fails("breach: no such breach, what 3", WRONG, () -> x.breach(200, 3));
    }

    private static void breachesAre(TravellingPictures x, int... due) {
        Due.is("breaches", due.length / 3, x.breaches());
        for (int i = 0; i < due.length; i++) {
            Due.is("breach(" + i / 3 + ", " + i % 3 + ")", due[i], x.breach(i / 3, i % 3));
        }
        Due.is("behind the last breach", -1, x.breach(due.length / 3, 0));
    }
}

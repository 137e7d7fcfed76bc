import java.util.NoSuchElementException;

/** Promises 16 to 20: crate, pack, send, unpack, box. */
final class CrateTest {
    private static final Class<IllegalArgumentException> WRONG = IllegalArgumentException.class;
    private static final Class<NoSuchElementException> NONE_SUCH = NoSuchElementException.class;

    public static void main(String[] args) {
        crates();
        packFromHome();
        packSizes();
        packFromStore();
        packOrderOfRefusals();
        send();
        unpack();
        rest();
        restOfTodaysLoans();
        box();
        Due.end();
    }

    private static void crates() {
        TravellingPictures x = new TravellingPictures();
        Due.is("least crate", 0, x.crate(1, 1));
        Due.is("greatest crate", 1, x.crate(600, 600));
        Due.fails("crate(0, 1)", WRONG, () -> x.crate(0, 1));
        Due.fails("crate(1, 0)", WRONG, () -> x.crate(1, 0));
        Due.fails("crate(601, 1)", WRONG, () -> x.crate(601, 1));
        Due.fails("crate(1, 601)", WRONG, () -> x.crate(1, 601));
        for (int i = 2; i < 20; i++) {
            Due.is("crate " + i, i, x.crate(1, 1));
        }
        Due.is("a 21st crate", -1, x.crate(1, 1));
        Due.fails("a 21st crate that is none", WRONG, () -> x.crate(0, 1));
        Due.is("20 crates", 20, x.count(4));
    }

    private static void packFromHome() {
        TravellingPictures x = new TravellingPictures();
        x.crate(10, 10);
        for (int i = 0; i < 5; i++) {
            x.work(0, 10, 10, 0, 0);
        }
        for (int i = 0; i < 4; i++) {
            Due.is("pack " + i, i + 1, x.pack(i, 0));
        }
        Due.is("a fifth", -3, x.pack(4, 0));
        Due.is("stays home", 0, x.told(4, 5));
        Due.is("without a line", 1, x.told(4, 8));
        Due.is("packed already", -1, x.pack(0, 0));
        Due.fails("pack: no such work", NONE_SUCH, () -> x.pack(5, 0));
        Due.fails("pack: work -1", NONE_SUCH, () -> x.pack(-1, 0));
        Due.fails("pack: no such crate", NONE_SUCH, () -> x.pack(4, 1));
        Due.fails("pack: crate -1", NONE_SUCH, () -> x.pack(0, -1));
    }

    private static void packSizes() {
        TravellingPictures x = new TravellingPictures();
        x.work(0, 50, 100, 0, 0);
        int[][] sizes = {{49, 100}, {50, 99}, {99, 50}, {100, 49}, {99, 99}, {600, 49}};
        for (int i = 0; i < sizes.length; i++) {
            x.crate(sizes[i][0], sizes[i][1]);
            Due.is("too small: " + sizes[i][0] + " by " + sizes[i][1], -4, x.pack(0, i));
        }
        x.crate(50, 100);
        Due.is("just as great", 1, x.pack(0, sizes.length));
        x.work(0, 50, 100, 0, 0);
        x.crate(100, 50);
        Due.is("the other way round", 1, x.pack(1, sizes.length + 1));
    }

    private static void packFromStore() {
        TravellingPictures x = new TravellingPictures();
        Due.stored(x, 0, 10, 10, 0, 2);
        Due.stored(x, 0, 10, 10, 0, 3);
        x.crate(10, 10);
        Due.is("into a crate that is nowhere", -2, x.pack(0, 2));
        Due.is("into a crate that is elsewhere", -2, x.pack(0, 1));
        Due.is("into the one of its city", 1, x.pack(0, 0));
        x.work(0, 10, 10, 0, 0);
        Due.is("from home into one in a city", -2, x.pack(2, 0));
        Due.is("from home into one nowhere", 1, x.pack(2, 2));
        x.room(3, 100, 0, 0, 0);
        x.hang(1, 0);
        Due.is("from a wall", -1, x.pack(1, 1));
        x.down(1);
        Due.is("taken down", 1, x.pack(1, 1));
        x.send(1, 2, 5);
        Due.stored(x, 0, 10, 10, 0, 2);
        Due.is("into a crate that is on its way there", -2, x.pack(3, 1));
        x.wait(4);
        Due.is("into a crate that has come", 2, x.pack(3, 1));
    }

    private static void packOrderOfRefusals() {
        TravellingPictures x = new TravellingPictures();
        x.crate(10, 10);
        for (int i = 0; i < 4; i++) {
            x.work(0, 10, 10, 0, 0);
            x.pack(i, 0);
        }
        x.work(0, 20, 20, 0, 0);
        Due.is("full ahead of too small", -3, x.pack(4, 0));
        x.send(0, 1, 2);
        Due.is("on its way ahead of full", -2, x.pack(4, 0));
        Due.is("packed ahead of on its way", -1, x.pack(0, 0));
    }

    private static void send() {
        TravellingPictures x = new TravellingPictures();
        x.crate(10, 10);
        x.work(0, 10, 10, 0, 0);
        Due.is("an empty crate", -1, x.send(0, 0, 1));
        Due.is("stays nowhere", -1, x.box(0, 1));
        Due.fails("send: city 5, empty", WRONG, () -> x.send(0, 5, 1));
        x.pack(0, 0);
        x.wait(7);
        Due.fails("send: city 5", WRONG, () -> x.send(0, 5, 1));
        Due.fails("send: city -1", WRONG, () -> x.send(0, -1, 1));
        Due.fails("send: 0 hours", WRONG, () -> x.send(0, 0, 0));
        Due.fails("send: 101 hours", WRONG, () -> x.send(0, 0, 101));
        Due.fails("send: no such crate", NONE_SUCH, () -> x.send(1, 0, 1));
        Due.fails("send: crate -1 and city 5", NONE_SUCH, () -> x.send(-1, 5, 1));
        Due.is("sent", 107, x.send(0, 4, 100));
        Due.is("on its way", -1, x.send(0, 4, 1));
        x.wait(99);
        Due.is("an hour ahead", -1, x.send(0, 3, 1));
        Due.is("the city stays", 4, x.box(0, 1));
        x.wait(1);
        Due.is("sent on without unpacking", 108, x.send(0, 4, 1));
        Due.is("a work stays in its crate", 2, x.told(0, 5));
        Due.is("with one line for it", 2, x.told(0, 8));
    }

    private static void unpack() {
        TravellingPictures x = new TravellingPictures();
        x.crate(10, 10);
        Due.is("empty, nowhere", -1, x.unpack(0));
        for (int i = 0; i < 3; i++) {
            x.work(i, 10, 10, 0, 0);
            x.pack(i, 0);
        }
        Due.is("nowhere", -1, x.unpack(0));
        x.send(0, 2, 3);
        x.wait(2);
        Due.is("on its way", -1, x.unpack(0));
        x.wait(1);
        Due.is("come", 3, x.unpack(0));
        Due.is("empty", -1, x.unpack(0));
        for (int i = 0; i < 3; i++) {
            Due.is("in the store: " + i, 9, x.lead(i, 3));
            Due.is("lines of " + i, 3, x.told(i, 8));
        }
        Due.is("the crate is empty", 0, x.box(0, 0));
        Due.is("the crate stays", 2, x.box(0, 1));
        Due.fails("unpack(1)", NONE_SUCH, () -> x.unpack(1));
        Due.fails("unpack(-1)", NONE_SUCH, () -> x.unpack(-1));
    }

    private static void rest() {
        TravellingPictures x = new TravellingPictures();
        Due.loan(x, "rest 3; rest 6; rest 4;", 0, 0);
        Due.loan(x, "rest 5;", 1, 0);
        x.crate(10, 10);
        for (int i = 0; i < 3; i++) {
            x.work(i, 10, 10, 0, 0);
            x.pack(i, 0);
        }
        x.send(0, 0, 2);
        x.wait(2);
        for (int i = 0; i < 6; i++) {
            Due.is("rested " + i, -2, x.unpack(0));
            Due.is("nothing goes", 3, x.box(0, 0));
            x.wait(1);
        }
        Due.is("rested 6", 3, x.unpack(0));
        Due.is("packed where it is", 1, x.pack(0, 0));
        Due.is("it has rested", 1, x.unpack(0));
        x.pack(1, 0);
        x.send(0, 1, 1);
        x.wait(5);
        Due.is("the other lender, 4", -2, x.unpack(0));
        x.wait(1);
        Due.is("the other lender, 5", 1, x.unpack(0));
    }

    private static void restOfTodaysLoans() {
        TravellingPictures x = new TravellingPictures();
        Due.loan(x, "rest 999999;", 0, 0);
        x.crate(10, 10);
        x.work(0, 10, 10, 0, 0);
        x.pack(0, 0);
        x.send(0, 0, 1);
        x.loan(0, 0, 1);
        x.wait(23);
        Due.is("day 0", -2, x.unpack(0));
        x.wait(1);
        Due.is("day 1", 1, x.unpack(0));
    }

    private static void box() {
        TravellingPictures x = new TravellingPictures();
        x.crate(10, 10);
        boxIs(x, "nowhere", 0, -1, 0, 0);
        x.work(0, 10, 10, 0, 0);
        x.wait(4);
        x.pack(0, 0);
        boxIs(x, "packed", 1, -1, 0, 0);
        x.send(0, 3, 2);
        boxIs(x, "sent", 1, 3, 1, 6);
        x.wait(1);
        boxIs(x, "on its way", 1, 3, 1, 6);
        x.wait(1);
        boxIs(x, "come", 1, 3, 0, 6);
        x.wait(9);
        x.unpack(0);
        boxIs(x, "unpacked", 0, 3, 0, 6);
        Due.fails("box: what 4", WRONG, () -> x.box(0, 4));
        Due.fails("box: what -1", WRONG, () -> x.box(0, -1));
        Due.fails("box: no such crate", NONE_SUCH, () -> x.box(1, 0));
        Due.fails("box: crate -1 and what 4", NONE_SUCH, () -> x.box(-1, 4));
    }

    private static void boxIs(TravellingPictures x, String when, int works, int city, int onItsWay, int hour) {
        Due.is(when + ": works", works, x.box(0, 0));
        Due.is(when + ": city", city, x.box(0, 1));
        Due.is(when + ": on its way", onItsWay, x.box(0, 2));
        Due.is(when + ": hour", hour, x.box(0, 3));
    }
}

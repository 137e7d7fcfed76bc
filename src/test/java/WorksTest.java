import java.util.NoSuchElementException;

/** Promises 1 to 5 and 32: a new object, work, told, history, lead, count. */
final class WorksTest {
    private static final Class<NoSuchElementException> NONE_SUCH = NoSuchElementException.class;
    private static final Class<IllegalArgumentException> WRONG = IllegalArgumentException.class;

    public static void main(String[] args) {
        newObject();
        workAndItsEdges();
        told();
        history();
        lead();
        count();
        Due.end();
    }

    private static void newObject() {
        TravellingPictures x = new TravellingPictures();
        for (int what = 0; what <= 6; what++) {
            Due.is("new: count(" + what + ")", 0, x.count(what));
        }
        Due.is("NONE", -1, TravellingPictures.NONE);
        Due.is("new: breaches", 0, x.breaches());
        Due.is("new: breach(0, 0)", -1, x.breach(0, 0));
        Due.is("new: force(0, 0)", -1, x.force(0, 0));
        Due.fails("new: told(0, 0)", NONE_SUCH, () -> x.told(0, 0));
        Due.fails("new: wall(0, 0)", NONE_SUCH, () -> x.wall(0, 0));
        Due.fails("new: box(0, 0)", NONE_SUCH, () -> x.box(0, 0));
        Due.fails("new: tear(0, 0)", IndexOutOfBoundsException.class, () -> x.tear(0, 0));
        Due.is("new: loan(0, 0, 0)", 0, x.loan(0, 0, 0));
    }

    private static void workAndItsEdges() {
        TravellingPictures x = new TravellingPictures();
        Due.is("least work", 0, x.work(0, 1, 1, 0, 0));
        Due.is("greatest work", 1, x.work(9, 500, 500, 10000, 9));
        int[][] wrong = {{-1, 1, 1, 0, 0}, {10, 1, 1, 0, 0}, {0, 0, 1, 0, 0}, {0, 501, 1, 0, 0}, {0, 1, 0, 0, 0},
            {0, 1, 501, 0, 0}, {0, 1, 1, -1, 0}, {0, 1, 1, 10001, 0}, {0, 1, 1, 0, -1}, {0, 1, 1, 0, 10}};
        for (int[] w : wrong) {
            Due.fails("work " + java.util.Arrays.toString(w), WRONG, () -> x.work(w[0], w[1], w[2], w[3], w[4]));
        }
        Due.is("refused works are none", 2, x.count(0));
        for (int i = 2; i < 40; i++) {
            Due.is("work " + i, i, x.work(0, 1, 1, 0, 0));
        }
        Due.is("a 41st work", -1, x.work(0, 1, 1, 0, 0));
        Due.fails("a 41st work that is none", WRONG, () -> x.work(10, 1, 1, 0, 0));
        Due.is("40 works", 40, x.count(0));
        Due.is("the last work is told", 0, x.told(39, 0));
    }

    private static void told() {
        TravellingPictures x = new TravellingPictures();
        x.work(7, 11, 12, 13, 4);
        int[] due = {7, 11, 12, 13, 4, 0, 0, 0, 1};
        for (int what = 0; what < due.length; what++) {
            Due.is("told(0, " + what + ")", due[what], x.told(0, what));
        }
        Due.fails("told(0, 9)", WRONG, () -> x.told(0, 9));
        Due.fails("told(0, -1)", WRONG, () -> x.told(0, -1));
        Due.fails("told(1, 0)", NONE_SUCH, () -> x.told(1, 0));
        Due.fails("told(-1, 0)", NONE_SUCH, () -> x.told(-1, 0));
        Due.fails("told(1, 9)", NONE_SUCH, () -> x.told(1, 9));
        x.crate(20, 20);
        x.crate(20, 20);
        x.pack(0, 1);
        Due.is("packed: place", 2, x.told(0, 5));
        Due.is("packed: which", 1, x.told(0, 6));
        x.send(1, 3, 1);
        x.wait(1);
        x.unpack(1);
        Due.is("stored: place", 1, x.told(0, 5));
        Due.is("stored: which", 3, x.told(0, 6));
        x.room(3, 100, 7, 0, 24);
        x.room(3, 100, 7, 0, 24);
        x.hang(0, 1);
        x.wait(2);
        Due.is("hung: place", 3, x.told(0, 5));
        Due.is("hung: which", 1, x.told(0, 6));
        Due.is("hung: light", 14, x.told(0, 7));
        Due.is("hung: lines", 4, x.told(0, 8));
    }

    private static TravellingPictures travelled() {
        TravellingPictures x = new TravellingPictures();
        x.wait(5);
        Due.stored(x, 0, 10, 10, 0, 2);
        x.room(0, 100, 0, 0, 0);
        x.room(2, 100, 0, 0, 0);
        x.hang(0, 1);
        x.wait(4);
        x.down(0);
        x.hang(0, 1);
        return x;
    }

    private static void history() {
        TravellingPictures x = travelled();
        int[][] due = {{5, 0, 0}, {5, 2, 0}, {6, 1, 2}, {6, 3, 1}, {10, 1, 2}, {10, 3, 1}};
        Due.is("lines", due.length, x.told(0, 8));
        for (int k = 0; k < due.length; k++) {
            for (int what = 0; what < 3; what++) {
                Due.is("history(0, " + k + ", " + what + ")", due[k][what], x.history(0, k, what));
            }
        }
        Due.fails("history: a line too far", NONE_SUCH, () -> x.history(0, 6, 0));
        Due.fails("history: line -1", NONE_SUCH, () -> x.history(0, -1, 0));
        Due.fails("history: no such work", NONE_SUCH, () -> x.history(1, 0, 0));
        Due.fails("history: what 3", WRONG, () -> x.history(0, 0, 3));
        Due.fails("history: what -1", WRONG, () -> x.history(0, 0, -1));
        Due.fails("history: no line and no what", NONE_SUCH, () -> x.history(0, 6, 3));
    }

    private static void lead() {
        TravellingPictures x = travelled();
        int[] hours = {Integer.MIN_VALUE, -1, 4, 5, 6, 9, 10, 11, Integer.MAX_VALUE};
        int[] due = {-1, -1, -1, 2, 7, 7, 7, 7, 7};
        for (int i = 0; i < hours.length; i++) {
            Due.is("lead(0, " + hours[i] + ")", due[i], x.lead(0, hours[i]));
        }
        x.work(0, 1, 1, 0, 0);
        Due.is("made at 10: ahead", -1, x.lead(1, 9));
        Due.is("made at 10: home", 0, x.lead(1, 10));
        Due.is("made at 10: home later", 0, x.lead(1, 99));
        x.down(0);
        Due.is("the last line of an hour leads", 9, x.lead(0, 10));
        Due.fails("lead(2, 0)", NONE_SUCH, () -> x.lead(2, 0));
        Due.fails("lead(-1, 0)", NONE_SUCH, () -> x.lead(-1, 0));
    }

    private static void count() {
        TravellingPictures x = travelled();
        x.sheet();
        x.sheet();
        x.loan(0, 0, 0);
        x.loan(0, 0, 0);
        x.loan(0, 0, 0);
        x.feed(0, 0, 0, 0, 0);
        int[] due = {1, 2, 2, 3, 1, 10, 20};
        for (int what = 0; what < due.length; what++) {
            Due.is("count(" + what + ")", due[what], x.count(what));
        }
        Due.is("count(7)", -1, x.count(7));
        Due.is("count(-1)", -1, x.count(-1));
    }
}

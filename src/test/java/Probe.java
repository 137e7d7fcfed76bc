import java.util.ArrayList;
import java.util.List;

/**
 * Asks an office everything that it can be asked, to tell two offices apart. What can only be seen by a change (rows,
 * the tape, what hours bring) is asked on offices of their own, to which the same calls were made.
 */
final class Probe {
    private static final int[] DAYS = {-1, 0, 1, 2, 10000};

    private final List<Edge.Call> made;
    private final int callsMade;
    private final List<String> answers = new ArrayList<>();
    private TravellingPictures office;
    private int calls;

    /** Two probes that are held against each other take the same callsMade: they then renew their offices alike. */
    Probe(List<Edge.Call> made, int callsMade) {
        this.made = made;
        this.callsMade = callsMade;
    }

    /** The first answer that differs, or null. */
    static String difference(List<String> without, List<String> with) {
        for (int i = 0; i < without.size() && i < with.size(); i++) {
            if (!without.get(i).equals(with.get(i))) {
                return without.get(i) + " became " + with.get(i);
            }
        }
        return without.size() == with.size() ? null : without.size() + " answers became " + with.size();
    }

    List<String> answers() {
        renew();
        readCounts();
        readWorks();
        readLoans();
        readCratesAndRooms();
        readBook();
        readTape();
        readRows();
        readHours();
        readUnpacked();
        return answers;
    }

    private void renew() {
        office = new TravellingPictures();
        for (Edge.Call call : made) {
            Edge.outcome(office, call);
        }
        calls = callsMade;
    }

    private String ask(String what, Edge.Call call) {
        if (calls >= Edge.MOST_CALLS) {
            renew();
        }
        calls++;
        String answer = Edge.outcome(office, call);
        answers.add(what + " = " + answer);
        return answer;
    }

    private int count(int what) {
        return Integer.parseInt(ask("count " + what, x -> x.count(what)));
    }

    private void readCounts() {
        for (int what = 0; what <= 6; what++) {
            count(what);
        }
    }

    private void readWorks() {
        int works = count(0);
        for (int i = 0; i < works; i++) {
            int work = i;
            for (int j = 0; j <= 8; j++) {
                int what = j;
                ask("told " + work + " " + what, x -> x.told(work, what));
            }
            int lines = Integer.parseInt(ask("lines " + work, x -> x.told(work, 8)));
            for (int j = 0; j < 3 * lines; j++) {
                int k = j / 3;
                int what = j % 3;
                ask("history " + work + " " + k + " " + what, x -> x.history(work, k, what));
            }
            ask("tour " + work, x -> x.tour(work));
        }
    }

    private void readLoans() {
        for (int i = 0; i < 10; i++) {
            int lender = i;
            for (int day : DAYS) {
                ask("force " + lender + " " + day, x -> x.force(lender, day));
            }
        }
    }

    private void readCratesAndRooms() {
        int crates = count(4);
        for (int i = 0; i < 4 * crates; i++) {
            int crate = i / 4;
            int what = i % 4;
            ask("box " + crate + " " + what, x -> x.box(crate, what));
        }
        int rooms = count(1);
        for (int i = 0; i < rooms; i++) {
            int room = i;
            ask("unknown " + room, x -> x.unknown(room));
            String hung = "";
            for (int j = 0; j <= 40 && !hung.equals("-1"); j++) {
                int k = j;
                hung = ask("wall " + room + " " + k, x -> x.wall(room, k));
            }
        }
    }

    private void readBook() {
        int breaches = Integer.parseInt(ask("breaches", x -> x.breaches()));
        for (int i = 0; i < 3 * Math.min(breaches + 1, 201); i++) {
            int k = i / 3;
            int what = i % 3;
            ask("breach " + k + " " + what, x -> x.breach(k, what));
        }
    }

    private void readTape() {
        renew();
        int bytes = count(6);
        ask("loan of the whole tape", x -> x.loan(bytes, 0, 0));
    }

    private void readRows() {
        renew();
        int rows = 10 * count(2);
        for (int i = 0; i < 25 * rows; i++) {
            int sheet = i / 250;
            int k = i / 25 % 10;
            int place = i % 25;
            String answer = ask("put " + sheet + " " + k + " " + place, x -> x.put(sheet, k, place, 0));
            i += answer.equals("1") ? 0 : 24 - place;
        }
    }

    /** A day shows the air that works bear, if a loan in force asks for it. */
    private void readHours() {
        renew();
        for (int i = 0; i < 25; i++) {
            ask("wait " + i, x -> x.wait(1));
            ask("breaches then", x -> x.breaches());
        }
        readCratesAndRooms();
        readBook();
    }

    private void readUnpacked() {
        renew();
        int crates = count(4);
        ask("wait", x -> x.wait(100));
        for (int i = 0; i < crates; i++) {
            int crate = i;
            ask("unpack " + crate, x -> x.unpack(crate));
        }
        int works = count(0);
        for (int i = 0; i < works; i++) {
            int work = i;
            ask("down " + work, x -> x.down(work));
            ask("lead then " + work, x -> x.lead(work, 1000000));
        }
    }
}

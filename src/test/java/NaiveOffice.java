import java.util.ArrayList;
import java.util.Arrays;
import java.util.List;
import java.util.NoSuchElementException;

/** The document once more, in the most roundabout way: what RandomCallsTest holds the class against. */
final class NaiveOffice {
    private static final int MOST = 999999;

    private final List<int[]> works = new ArrayList<>();
    private final List<List<int[]>> histories = new ArrayList<>();
    private final List<Integer> lights = new ArrayList<>();
    private final List<int[]> rooms = new ArrayList<>();
    private final List<List<Integer>> walls = new ArrayList<>();
    private final List<int[]> airs = new ArrayList<>();
    private final List<Integer> unknowns = new ArrayList<>();
    private final List<Float[][]> sheets = new ArrayList<>();
    private final List<int[]> loans = new ArrayList<>();
    private final List<List<int[]>> texts = new ArrayList<>();
    private final List<int[]> crates = new ArrayList<>();
    private final List<List<Integer>> loads = new ArrayList<>();
    private final List<int[]> book = new ArrayList<>();
    private final int[] uses = new int[5];
    private final int[] gains = new int[5];
    private String tape = "";
    private int hour = 0;

    private static void argument(boolean holds) {
        if (!holds) {
            throw new IllegalArgumentException();
        }
    }

    private static void element(List<?> list, int k) {
        if (k < 0 || k >= list.size()) {
            throw new NoSuchElementException();
        }
    }

    private static boolean in(int x, int a, int b) {
        return a <= x && x <= b;
    }

    private int[] last(int work) {
        List<int[]> lines = histories.get(work);
        return lines.get(lines.size() - 1);
    }

    private void line(int work, int place, int which) {
        histories.get(work).add(new int[] {hour, place, which});
    }

    int work(int lender, int width, int height, int worth, int chapter) {
        argument(in(lender, 0, 9) && in(width, 1, 500) && in(height, 1, 500) && in(worth, 0, 10000) && in(chapter, 0, 9));
        if (works.size() == 40) {
            return -1;
        }
        works.add(new int[] {lender, width, height, worth, chapter});
        histories.add(new ArrayList<>());
        lights.add(0);
        line(works.size() - 1, 0, 0);
        return works.size() - 1;
    }

    int told(int work, int what) {
        element(works, work);
        argument(in(what, 0, 8));
        if (what < 5) {
            return works.get(work)[what];
        }
        return what < 7 ? last(work)[what - 4] : what == 7 ? lights.get(work) : histories.get(work).size();
    }

    int history(int work, int k, int what) {
        element(works, work);
        element(histories.get(work), k);
        argument(in(what, 0, 2));
        return histories.get(work).get(k)[what];
    }

    int lead(int work, int at) {
        element(works, work);
        int lead = -1;
        for (int[] line : histories.get(work)) {
            lead = line[0] <= at ? 4 * line[2] + line[1] : lead;
        }
        return lead;
    }

    int room(int city, int length, int lux, int open, int shut) {
        argument(in(city, 0, 4) && in(length, 1, 5000) && in(lux, 0, 1000) && in(open, 0, 24) && in(shut, 0, 24) && open <= shut);
        if (rooms.size() == 20) {
            return -1;
        }
        rooms.add(new int[] {city, length, lux, open, shut});
        walls.add(new ArrayList<>());
        airs.add(null);
        unknowns.add(0);
        return rooms.size() - 1;
    }

    private void rowOf(int sheet, int k) {
        if (sheet < 0 || sheet >= sheets.size() || k < 0 || k > 9) {
            throw new IndexOutOfBoundsException();
        }
    }

    int air(int room, int sheet, int k) {
        element(rooms, room);
        rowOf(sheet, k);
        airs.set(room, new int[] {sheet, k});
        return 1;
    }

    int sheet() {
        if (sheets.size() == 4) {
            return -1;
        }
        sheets.add(new Float[10][]);
        return sheets.size() - 1;
    }

    int row(int sheet, int k, int n) {
        rowOf(sheet, k);
        if (!in(n, 0, 24)) {
            return -1;
        }
        sheets.get(sheet)[k] = new Float[n];
        Arrays.fill(sheets.get(sheet)[k], 0f);
        return n;
    }

    int put(int sheet, int k, int i, int bits) {
        rowOf(sheet, k);
        Float[] row = sheets.get(sheet)[k];
        if (row == null) {
            return -1;
        }
        if (i < 0 || i >= row.length) {
            return -2;
        }
        row[i] = Float.intBitsToFloat(bits);
        return 1;
    }

    int tear(int sheet, int k) {
        rowOf(sheet, k);
        boolean was = sheets.get(sheet)[k] != null;
        sheets.get(sheet)[k] = null;
        return was ? 1 : 0;
    }

    int feed(int a, int b, int c, int d, int e) {
        if (tape.length() > 180) {
            return -1;
        }
        for (int four : new int[] {a, b, c, d, e}) {
            tape += "" + (char) (four >>> 24) + (char) (four >>> 16 & 255) + (char) (four >>> 8 & 255) + (char) (four & 255);
        }
        return tape.length();
    }

    int loan(int n, int lender, int day) {
        argument(in(n, 0, tape.length()) && in(lender, 0, 9) && in(day, 0, 10000));
        if (loans.size() == 30) {
            throw new IllegalStateException();
        }
        String text = tape.substring(0, n);
        tape = "";
        List<int[]> clauses = new ArrayList<>();
        int fault = faultOf(tokens(text), n, clauses);
        if (fault >= 0) {
            return -2 - fault;
        }
        loans.add(new int[] {lender, day});
        texts.add(clauses);
        return loans.size() - 1;
    }

    private record Token(char kind, String text, int at) {
    }

    /** Words, numbers of up to six digits and single signs; a number that another digit follows is split there. */
    private static List<Token> tokens(String text) {
        List<Token> tokens = new ArrayList<>();
        java.util.regex.Matcher m = java.util.regex.Pattern.compile("([a-z]+)|([0-9]{1,6})|([^ ])",
                java.util.regex.Pattern.DOTALL).matcher(text);
        while (m.find()) {
            char kind = m.group(1) != null ? 'w' : m.group(2) != null ? 'n' : m.group().charAt(0);
            boolean seventh = kind == 'n' && !tokens.isEmpty() && m.start() > 0
                    && Character.isDigit(text.charAt(m.start() - 1)) && text.charAt(m.start() - 1) < 128;
            tokens.add(new Token(seventh ? '7' : kind == 'w' || kind == 'n' || kind == ';' || kind == '-' ? kind : '?',
                    m.group(), m.start()));
        }
        return tokens;
    }

    private static int faultOf(List<Token> tokens, int end, List<int[]> clauses) {
        int i = 0;
        while (i < tokens.size()) {
            Token word = tokens.get(i);
            int kind = Arrays.asList("cities", "until", "light", "damp", "rest", "apart").indexOf(word.text);
            if (kind < 0 || clauses.size() == 10) {
                return word.at;
            }
            String form = kind == 3 ? "n-n;" : kind == 0 ? "n*;" : "n;";
            int most = kind == 0 ? 4 : kind == 5 ? 9 : MOST;
            List<Integer> numbers = new ArrayList<>();
            i++;
            for (int f = 0; f < form.length(); i++) {
                char want = form.charAt(f);
                Token token = i < tokens.size() ? tokens.get(i) : new Token('e', "", end);
                if (want == '*') {
                    f += token.kind == 'n' ? 0 : 1;
                    want = token.kind == 'n' ? 'n' : ';';
                    f += token.kind == 'n' ? 0 : 1;
                } else {
                    f++;
                }
                if (token.kind != want) {
                    return token.at;
                }
                if (want == 'n') {
                    if (i + 1 < tokens.size() && tokens.get(i + 1).kind == '7') {
                        return tokens.get(i + 1).at;
                    }
                    if (Integer.parseInt(token.text) > most) {
                        return token.at;
                    }
                    numbers.add(Integer.parseInt(token.text));
                }
            }
            int[] clause = new int[numbers.size() + 1];
            clause[0] = kind;
            for (int k = 0; k < numbers.size(); k++) {
                clause[k + 1] = numbers.get(k);
            }
            clauses.add(clause);
        }
        return -1;
    }

    int force(int lender, int day) {
        for (int d = Math.min(day, 10000); d >= 0; d--) {
            for (int i = loans.size() - 1; i >= 0; i--) {
                if (loans.get(i)[0] == lender && loans.get(i)[1] == d) {
                    return i;
                }
            }
        }
        return -1;
    }

    private List<int[]> clausesOf(int work, int day) {
        int loan = force(works.get(work)[0], day);
        return loan < 0 ? List.of() : texts.get(loan);
    }

    private static boolean names(int[] clause, int number) {
        return Arrays.stream(clause).skip(1).anyMatch(n -> n == number);
    }

    int barred(int work, int city, int day) {
        element(works, work);
        argument(in(city, 0, 4));
        List<int[]> clauses = clausesOf(work, day);
        for (int i = 0; i < clauses.size(); i++) {
            int[] c = clauses.get(i);
            if (c[0] == 0 && !names(c, city) || c[0] == 1 && day > c[1] || c[0] == 2 && lights.get(work) > c[1]) {
                return i;
            }
        }
        return -1;
    }

    int crate(int wide, int high) {
        argument(in(wide, 1, 600) && in(high, 1, 600));
        if (crates.size() == 20) {
            return -1;
        }
        crates.add(new int[] {wide, high, -1, 0});
        loads.add(new ArrayList<>());
        return crates.size() - 1;
    }

    int pack(int work, int crate) {
        element(works, work);
        element(crates, crate);
        int[] w = works.get(work);
        int[] c = crates.get(crate);
        int place = last(work)[1];
        if (place > 1) {
            return -1;
        }
        if (c[3] > hour || c[2] != (place == 0 ? -1 : last(work)[2])) {
            return -2;
        }
        if (loads.get(crate).size() == 4) {
            return -3;
        }
        if (Math.min(w[1], w[2]) > Math.min(c[0], c[1]) || Math.max(w[1], w[2]) > Math.max(c[0], c[1])) {
            return -4;
        }
        loads.get(crate).add(work);
        line(work, 2, crate);
        return loads.get(crate).size();
    }

    int send(int crate, int city, int hours) {
        element(crates, crate);
        argument(in(city, 0, 4) && in(hours, 1, 100));
        if (crates.get(crate)[3] > hour || loads.get(crate).isEmpty()) {
            return -1;
        }
        crates.get(crate)[2] = city;
        crates.get(crate)[3] = hour + hours;
        return hour + hours;
    }

    int unpack(int crate) {
        element(crates, crate);
        int[] c = crates.get(crate);
        List<Integer> load = loads.get(crate);
        if (load.isEmpty() || c[2] < 0 || c[3] > hour) {
            return -1;
        }
        for (int work : load) {
            for (int[] clause : clausesOf(work, hour / 24)) {
                if (clause[0] == 4 && c[3] + clause[1] > hour) {
                    return -2;
                }
            }
        }
        for (int work : load) {
            line(work, 1, c[2]);
        }
        loads.set(crate, new ArrayList<>());
        return load.size();
    }

    int box(int crate, int what) {
        element(crates, crate);
        argument(in(what, 0, 3));
        int[] c = crates.get(crate);
        return what == 0 ? loads.get(crate).size() : what == 1 ? c[2] : what == 3 ? c[3] : c[3] > hour ? 1 : 0;
    }

    private boolean apart(int one, int other) {
        return clausesOf(one, hour / 24).stream().anyMatch(c -> c[0] == 5 && c[1] == works.get(other)[0])
                || clausesOf(other, hour / 24).stream().anyMatch(c -> c[0] == 5 && c[1] == works.get(one)[0]);
    }

    private boolean fits(List<Integer> hung, int room) {
        return hung.stream().mapToInt(w -> works.get(w)[1]).sum() + 30 * (hung.size() - 1) <= rooms.get(room)[1];
    }

    int hang(int work, int room) {
        element(works, work);
        element(rooms, room);
        List<Integer> with = new ArrayList<>(walls.get(room));
        with.add(work);
        if (last(work)[1] != 1 || last(work)[2] != rooms.get(room)[0]) {
            return -1;
        }
        if (barred(work, rooms.get(room)[0], hour / 24) >= 0) {
            return -2;
        }
        if (!fits(with, room)) {
            return -3;
        }
        if (walls.get(room).stream().anyMatch(w -> apart(w, work))) {
            return -4;
        }
        walls.set(room, with);
        line(work, 3, room);
        return with.size();
    }

    int down(int work) {
        element(works, work);
        if (last(work)[1] != 3) {
            return -1;
        }
        int room = last(work)[2];
        walls.get(room).remove((Integer) work);
        line(work, 1, rooms.get(room)[0]);
        return walls.get(room).size();
    }

    int wall(int room, int k) {
        element(rooms, room);
        return k < 0 || k >= walls.get(room).size() ? -1 : walls.get(room).get(k);
    }

    int pass(int hours) {
        argument(in(hours, 0, 1000));
        if (hour + hours > 200000) {
            throw new IllegalStateException();
        }
        for (int i = 0; i < hours; i++) {
            oneHour();
            hour++;
        }
        return hour;
    }

    private Float airOf(int room) {
        int[] air = airs.get(room);
        Float[] row = air == null ? null : sheets.get(air[0])[air[1]];
        return row == null || row.length <= hour % 24 ? null : row[hour % 24];
    }

    private void oneHour() {
        for (int room = 0; room < rooms.size(); room++) {
            if (!walls.get(room).isEmpty() && airOf(room) == null) {
                unknowns.set(room, unknowns.get(room) + 1);
            }
        }
        for (int work = 0; work < works.size(); work++) {
            if (last(work)[1] != 3) {
                continue;
            }
            int room = last(work)[2];
            int[] r = rooms.get(room);
            int before = lights.get(work);
            int now = before + (hour % 24 >= r[3] && hour % 24 < r[4] ? r[2] : 0);
            lights.set(work, now);
            Float air = airOf(room);
            List<int[]> clauses = clausesOf(work, hour / 24);
            for (int i = 0; i < clauses.size(); i++) {
                int[] c = clauses.get(i);
                boolean breached = switch (c[0]) {
                    case 1 -> hour / 24 > c[1] && hour % 24 == 0;
                    case 2 -> before <= c[1] && now > c[1];
                    case 3 -> air != null && (air.isNaN() || (int) (float) air < c[1] || (int) (float) air > c[2]);
                    default -> false;
                };
                if (breached) {
                    book.add(new int[] {hour, work, i});
                }
            }
        }
    }

    int unknown(int room) {
        element(rooms, room);
        return unknowns.get(room);
    }

    int breaches() {
        return book.size();
    }

    int breach(int k, int what) {
        argument(in(what, 0, 2));
        return k < 0 || k >= Math.min(200, book.size()) ? -1 : book.get(k)[what];
    }

    private List<Integer> best;
    private int bestStep;

    private void orders(List<Integer> left, List<Integer> order) {
        if (left.isEmpty()) {
            int step = stepOf(order);
            if (step >= 0 && (best == null || step < bestStep)) {
                best = new ArrayList<>(order);
                bestStep = step;
            }
        }
        for (int work : left) {
            List<Integer> rest = new ArrayList<>(left);
            rest.remove((Integer) work);
            order.add(work);
            orders(rest, order);
            order.remove(order.size() - 1);
        }
    }

    private int stepOf(List<Integer> order) {
        int step = 0;
        for (int i = 1; i < order.size(); i++) {
            if (apart(order.get(i - 1), order.get(i))) {
                return -1;
            }
            step += Math.abs(works.get(order.get(i - 1))[2] - works.get(order.get(i))[2]);
        }
        for (int i = 0; i < order.size(); i++) {
            for (int j = i + 1; j < order.size(); j++) {
                int chapter = works.get(order.get(i))[4];
                for (int m = i + 1; m < j && chapter != 0 && works.get(order.get(j))[4] == chapter; m++) {
                    if (works.get(order.get(m))[4] != chapter) {
                        return -1;
                    }
                }
            }
        }
        return step;
    }

    private void findBest(int room, int bits) {
        element(rooms, room);
        best = null;
        List<Integer> told = new ArrayList<>();
        for (int i = 0; i < 32; i++) {
            if ((bits >>> i & 1) == 1) {
                told.add(i);
                element(works, i == 31 ? -1 : i);
            }
        }
        if (in(told.size(), 1, 7) && fits(told, room)) {
            orders(told, new ArrayList<>());
        }
    }

    int step(int room, int bits) {
        findBest(room, bits);
        return best == null ? -1 : bestStep;
    }

    int hanging(int room, int bits, int k) {
        findBest(room, bits);
        return best == null || k < 0 || k >= best.size() ? -1 : best.get(k);
    }

    int gain(int city, int use, int gain) {
        argument(in(city, 0, 4) && in(use, 0, 1000000) && in(gain, 0, 10000));
        uses[city] = use;
        gains[city] = gain;
        return 1;
    }

    int tour(int work) {
        element(works, work);
        int found = 0;
        int foundRank = 0;
        for (int set = 0; set < 32; set++) {
            int use = lights.get(work);
            int gained = 0;
            boolean may = true;
            for (int city = 0; city < 5; city++) {
                if ((set >> city & 1) == 1) {
                    use += uses[city];
                    gained += gains[city];
                    for (int[] c : clausesOf(work, hour / 24)) {
                        may &= c[0] != 0 || names(c, city);
                    }
                }
            }
            for (int[] c : clausesOf(work, hour / 24)) {
                may &= c[0] != 2 || use <= c[1];
            }
            int rank = gained * 1000 - Integer.bitCount(set) * 100 - set;
            if (may && gained > 0 && (found == 0 || rank > foundRank)) {
                found = set;
                foundRank = rank;
            }
        }
        return found;
    }

    int count(int what) {
        int[] counts = {works.size(), rooms.size(), sheets.size(), loans.size(), crates.size(), hour, tape.length()};
        return what < 0 || what > 6 ? -1 : counts[what];
    }
}

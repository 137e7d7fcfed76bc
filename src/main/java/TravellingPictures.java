import java.util.ArrayList;
import java.util.NoSuchElementException;

/** A registrar's office for pictures that travel; the document DOC.md has the words that are used here. */
public final class TravellingPictures {
    public static final int NONE = -1;

    private static final int LENDERS = 10;
    private static final int CITIES = 5;
    private static final int HOURS_OF_DAY = 24;
    private static final int MOST_HOUR = 200000;

    private static final int MOST_WORKS = 40;
    private static final int MOST_ROOMS = 20;
    private static final int MOST_SHEETS = 4;
    private static final int MOST_LOANS = 30;
    private static final int MOST_CRATES = 20;
    private static final int MOST_CRATED = 4;
    private static final int MOST_CLAUSES = 10;
    private static final int MOST_TAPE = 200;
    private static final int MOST_BOOK = 200;
    private static final int ROWS = 10;

    /** 512 calls can't bring more lines: an unpacked work was packed by a call of its own. */
    private static final int MOST_LINES = 1024;

    private static final int MOST_ARRANGED = 7;
    private static final int TELLABLE_WORKS = 31;
    private static final int GAP = 30;

    /** LANGUAGE.md lists the functions of Integer, not its constants. */
    private static final int LEAST_INT = 0x80000000;
    private static final int MOST_INT = 0x7fffffff;

    private static final int HOME = 0;
    private static final int STORE = 1;
    private static final int CRATE = 2;
    private static final int WALL = 3;

    private static final int AIR_KNOWN = 0;
    private static final int AIR_UNKNOWN = 1;
    private static final int AIR_WORST = 2;

    private static final Kind[] KINDS = Kind.values();

    private final ArrayList<Work> works = new ArrayList<>();
    private final ArrayList<Room> rooms = new ArrayList<>();
    private final ArrayList<Sheet> sheets = new ArrayList<>();
    private final ArrayList<Loan> loans = new ArrayList<>();
    private final ArrayList<Crate> crates = new ArrayList<>();
    private final Loan[] loansOfDay = new Loan[LENDERS];
    private final Book book = new Book();
    private final Hanger hanger = new Hanger();
    private final byte[] tape = new byte[MOST_TAPE];
    private final int[] uses = new int[CITIES];
    private final int[] gains = new int[CITIES];
    private int tapeBytes;
    private int hour;

    public TravellingPictures() {
    }

    // ---- works

    public int work(int lender, int width, int height, int worth, int chapter) throws IllegalArgumentException {
        checkArgument(isLender(lender) && isWithin(width, 1, 500) && isWithin(height, 1, 500)
                && isWithin(worth, 0, 10000) && isWithin(chapter, 0, 9));
        if (works.size() >= MOST_WORKS) {
            return -1;
        }
        Work made = new Work(works.size(), lender, width, height, worth, chapter);
        works.add(made);
        move(made, HOME, 0);
        return made.number;
    }

    public int told(int work, int what) throws NoSuchElementException, IllegalArgumentException {
        Work asked = knownWork(work);
        checkArgument(isWithin(what, 0, 8));
        switch (what) {
            case 0:
                return asked.lender;
            case 1:
                return asked.width;
            case 2:
                return asked.height;
            case 3:
                return asked.worth;
            case 4:
                return asked.chapter;
            case 5:
                return asked.place;
            case 6:
                return asked.which;
            case 7:
                return asked.light;
            default:
                return asked.lines.size();
        }
    }

    public int history(int work, int k, int what) throws NoSuchElementException, IllegalArgumentException {
        Work asked = knownWork(work);
        if (k < 0 || k >= asked.lines.size()) {
            throw new NoSuchElementException("no such line");
        }
        checkArgument(isWithin(what, 0, 2));
        Line line = asked.lines.get(k);
        if (what == 0) {
            return line.hour;
        }
        return what == 1 ? line.place : line.which;
    }

    public int lead(int work, int hour) throws NoSuchElementException {
        Work asked = knownWork(work);
        for (int k = asked.lines.size() - 1; k >= 0; k--) {
            Line line = asked.lines.get(k);
            if (line.hour <= hour) {
                return 4 * line.which + line.place;
            }
        }
        return NONE;
    }

    // ---- rooms and their air

    public int room(int city, int length, int lux, int open, int shut) throws IllegalArgumentException {
        checkArgument(isCity(city) && isWithin(length, 1, 5000) && isWithin(lux, 0, 1000)
                && isWithin(open, 0, HOURS_OF_DAY) && isWithin(shut, open, HOURS_OF_DAY));
        if (rooms.size() >= MOST_ROOMS) {
            return -1;
        }
        rooms.add(new Room(city, length, lux, open, shut));
        return rooms.size() - 1;
    }

    public int air(int room, int sheet, int k) throws NoSuchElementException, IndexOutOfBoundsException {
        Room aired = knownRoom(room);
        aired.airSheet = sheetWithRow(sheet, k);
        aired.airRow = k;
        return 1;
    }

    public int sheet() {
        if (sheets.size() >= MOST_SHEETS) {
            return -1;
        }
        sheets.add(new Sheet());
        return sheets.size() - 1;
    }

    public int row(int sheet, int k, int n) throws IndexOutOfBoundsException {
        Sheet written = sheetWithRow(sheet, k);
        if (n < 0 || n > HOURS_OF_DAY) {
            return -1;
        }
        written.renew(k, n);
        return n;
    }

    public int put(int sheet, int k, int i, int bits) throws IndexOutOfBoundsException {
        Sheet written = sheetWithRow(sheet, k);
        if (written.isMissing(k)) {
            return -1;
        }
        if (!written.hasNumber(k, i)) {
            return -2;
        }
        written.write(k, i, bits);
        return 1;
    }

    public int tear(int sheet, int k) throws IndexOutOfBoundsException {
        Sheet torn = sheetWithRow(sheet, k);
        if (torn.isMissing(k)) {
            return 0;
        }
        torn.lose(k);
        return 1;
    }

    // ---- loans

    public int feed(int a, int b, int c, int d, int e) {
        if (tapeBytes + 20 > MOST_TAPE) {
            return NONE;
        }
        addToTape(a);
        addToTape(b);
        addToTape(c);
        addToTape(d);
        addToTape(e);
        return tapeBytes;
    }

    public int loan(int n, int lender, int day) throws IllegalArgumentException, IllegalStateException {
        checkArgument(isWithin(n, 0, tapeBytes) && isLender(lender) && isWithin(day, 0, 10000));
        if (loans.size() >= MOST_LOANS) {
            throw new IllegalStateException("there are 30 loans");
        }
        Loan read = new Loan(loans.size(), lender, day);
        Reader reader = new Reader(tape, n, read.clauses);
        tapeBytes = 0;
        reader.readText();
        if (reader.fault != NONE) {
            return -2 - reader.fault;
        }
        loans.add(read);
        return read.number;
    }

    public int force(int lender, int day) {
        Loan found = inForce(lender, day);
        return found == null ? NONE : found.number;
    }

    public int barred(int work, int city, int day) throws NoSuchElementException, IllegalArgumentException {
        Work asked = knownWork(work);
        checkArgument(isCity(city));
        return firstBar(asked, city, day);
    }

    // ---- crates

    public int crate(int wide, int high) throws IllegalArgumentException {
        checkArgument(isWithin(wide, 1, 600) && isWithin(high, 1, 600));
        if (crates.size() >= MOST_CRATES) {
            return -1;
        }
        crates.add(new Crate(wide, high));
        return crates.size() - 1;
    }

    public int pack(int work, int crate) throws NoSuchElementException {
        Work packed = knownWork(work);
        Crate filled = knownCrate(crate);
        if (packed.place != HOME && packed.place != STORE) {
            return -1;
        }
        if (isOnItsWay(filled) || !isBeside(packed, filled)) {
            return -2;
        }
        if (filled.load.size() >= MOST_CRATED) {
            return -3;
        }
        if (!filled.isWideEnough(packed)) {
            return -4;
        }
        filled.load.add(packed);
        move(packed, CRATE, crate);
        return filled.load.size();
    }

    public int send(int crate, int city, int hours) throws NoSuchElementException, IllegalArgumentException {
        Crate sent = knownCrate(crate);
        checkArgument(isCity(city) && isWithin(hours, 1, 100));
        if (isOnItsWay(sent) || sent.load.isEmpty()) {
            return -1;
        }
        sent.city = city;
        sent.comes = hour + hours;
        return sent.comes;
    }

    public int unpack(int crate) throws NoSuchElementException {
        Crate opened = knownCrate(crate);
        if (opened.load.isEmpty() || opened.city == NONE || isOnItsWay(opened)) {
            return -1;
        }
        if (hour - opened.comes < restAsked(opened)) {
            return -2;
        }
        int held = opened.load.size();
        for (int i = 0; i < held; i++) {
            move(opened.load.get(i), STORE, opened.city);
        }
        opened.load.clear();
        return held;
    }

    public int box(int crate, int what) throws NoSuchElementException, IllegalArgumentException {
        Crate asked = knownCrate(crate);
        checkArgument(isWithin(what, 0, 3));
        switch (what) {
            case 0:
                return asked.load.size();
            case 1:
                return asked.city;
            case 2:
                return isOnItsWay(asked) ? 1 : 0;
            default:
                return asked.comes;
        }
    }

    // ---- walls and hours

    public int hang(int work, int room) throws NoSuchElementException {
        Work hung = knownWork(work);
        Room chosen = knownRoom(room);
        if (hung.place != STORE || hung.which != chosen.city) {
            return -1;
        }
        if (firstBar(hung, chosen.city, today()) != NONE) {
            return -2;
        }
        if (chosen.lengthTaken() + hung.width > chosen.length) {
            return -3;
        }
        if (isApartFromWall(hung, chosen)) {
            return -4;
        }
        chosen.hung.add(hung);
        hung.hangsIn = chosen;
        move(hung, WALL, room);
        return chosen.hung.size();
    }

    public int down(int work) throws NoSuchElementException {
        Work taken = knownWork(work);
        Room left = taken.hangsIn;
        if (left == null) {
            return -1;
        }
        left.takeAway(taken);
        taken.hangsIn = null;
        move(taken, STORE, left.city);
        return left.hung.size();
    }

    public int wall(int room, int k) throws NoSuchElementException {
        Room asked = knownRoom(room);
        return k >= 0 && k < asked.hung.size() ? asked.hung.get(k).number : NONE;
    }

    public int wait(int hours) throws IllegalArgumentException, IllegalStateException {
        checkArgument(isWithin(hours, 0, 1000));
        if (hour + hours > MOST_HOUR) {
            throw new IllegalStateException("the hour would be above 200,000");
        }
        if (!somethingHangs()) {
            hour += hours;
            return hour;
        }
        for (int i = 0; i < hours; i++) {
            if (i == 0 || hour % HOURS_OF_DAY == 0) {
                recallLoansOfDay();
            }
            passHour();
            hour++;
        }
        return hour;
    }

    public int unknown(int room) throws NoSuchElementException {
        return knownRoom(room).unknownHours;
    }

    public int breaches() {
        return book.counted;
    }

    public int breach(int k, int what) throws IllegalArgumentException {
        checkArgument(isWithin(what, 0, 2));
        if (k < 0 || k >= book.kept()) {
            return NONE;
        }
        if (what == 0) {
            return book.hours[k];
        }
        return what == 1 ? book.works[k] : book.clauses[k];
    }

    // ---- the hanging of a wall, and tours

    public int step(int room, int bits) throws NoSuchElementException {
        Room asked = knownRoom(room);
        checkWorkBits(bits);
        return arrange(asked, bits);
    }

    public int hanging(int room, int bits, int k) throws NoSuchElementException {
        Room asked = knownRoom(room);
        checkWorkBits(bits);
        if (arrange(asked, bits) == NONE || k < 0 || k >= hanger.size) {
            return NONE;
        }
        return hanger.best[k];
    }

    public int gain(int city, int use, int gain) throws IllegalArgumentException {
        checkArgument(isCity(city) && isWithin(use, 0, 1000000) && isWithin(gain, 0, 10000));
        uses[city] = use;
        gains[city] = gain;
        return 1;
    }

    public int tour(int work) throws NoSuchElementException {
        Work asked = knownWork(work);
        Loan loan = inForce(asked.lender, today());
        int open = loan == null ? (1 << CITIES) - 1 : loan.openCities();
        int mostLight = loan == null ? MOST_INT : loan.leastLight();
        int best = 0;
        for (int set = 1; set < 1 << CITIES; set++) {
            boolean may = (set & ~open) == 0 && sumOver(set, uses) + asked.light <= mostLight;
            if (may && isBetterTour(set, best)) {
                best = set;
            }
        }
        return best;
    }

    public int count(int what) {
        switch (what) {
            case 0:
                return works.size();
            case 1:
                return rooms.size();
            case 2:
                return sheets.size();
            case 3:
                return loans.size();
            case 4:
                return crates.size();
            case 5:
                return hour;
            case 6:
                return tapeBytes;
            default:
                return NONE;
        }
    }

    // ---- what calls ask of their arguments

    private static void checkArgument(boolean holds) {
        if (!holds) {
            throw new IllegalArgumentException("an argument is none such");
        }
    }

    private static boolean isWithin(int number, int least, int most) {
        return number >= least && number <= most;
    }

    private static boolean isLender(int lender) {
        return isWithin(lender, 0, LENDERS - 1);
    }

    private static boolean isCity(int city) {
        return isWithin(city, 0, CITIES - 1);
    }

    private Work knownWork(int number) {
        if (number < 0 || number >= works.size()) {
            throw new NoSuchElementException("no such work");
        }
        return works.get(number);
    }

    private Room knownRoom(int number) {
        if (number < 0 || number >= rooms.size()) {
            throw new NoSuchElementException("no such room");
        }
        return rooms.get(number);
    }

    private Crate knownCrate(int number) {
        if (number < 0 || number >= crates.size()) {
            throw new NoSuchElementException("no such crate");
        }
        return crates.get(number);
    }

    private Sheet sheetWithRow(int number, int k) {
        if (number < 0 || number >= sheets.size() || k < 0 || k >= ROWS) {
            throw new IndexOutOfBoundsException("no such sheet or row");
        }
        return sheets.get(number);
    }

    private void checkWorkBits(int bits) {
        int tellable = Math.min(works.size(), TELLABLE_WORKS);
        if (bits >>> tellable != 0) {
            throw new NoSuchElementException("a bit tells no work");
        }
    }

    // ---- what the calls do

    private int today() {
        return hour / HOURS_OF_DAY;
    }

    private void move(Work moved, int place, int which) {
        moved.place = place;
        moved.which = which;
        if (moved.lines.size() < MOST_LINES) {
            moved.lines.add(new Line(hour, place, which));
        }
    }

    private void addToTape(int four) {
        for (int shift = 24; shift >= 0 && tapeBytes < MOST_TAPE; shift -= 8) {
            tape[tapeBytes] = (byte) (four >> shift);
            tapeBytes++;
        }
    }

    private Loan inForce(int lender, int day) {
        Loan found = null;
        for (int i = 0; i < loans.size(); i++) {
            Loan loan = loans.get(i);
            if (loan.lender == lender && loan.day <= day && (found == null || loan.day >= found.day)) {
                found = loan;
            }
        }
        return found;
    }

    private int firstBar(Work asked, int city, int day) {
        Loan loan = inForce(asked.lender, day);
        if (loan == null) {
            return NONE;
        }
        for (int i = 0; i < loan.clauses.size(); i++) {
            if (loan.clauses.get(i).bars(city, day, asked.light)) {
                return i;
            }
        }
        return NONE;
    }

    private boolean areApart(Work one, Work other) {
        return namesApart(one, other) || namesApart(other, one);
    }

    private boolean namesApart(Work naming, Work named) {
        Loan loan = inForce(naming.lender, today());
        return loan != null && loan.keepsApartFrom(named.lender);
    }

    private boolean isApartFromWall(Work hung, Room chosen) {
        for (int i = 0; i < chosen.hung.size(); i++) {
            if (areApart(hung, chosen.hung.get(i))) {
                return true;
            }
        }
        return false;
    }

    private boolean isOnItsWay(Crate asked) {
        return asked.city != NONE && hour < asked.comes;
    }

    private static boolean isBeside(Work packed, Crate filled) {
        if (packed.place == HOME) {
            return filled.city == NONE;
        }
        return filled.city == packed.which;
    }

    private int restAsked(Crate opened) {
        int rest = 0;
        for (int i = 0; i < opened.load.size(); i++) {
            Loan loan = inForce(opened.load.get(i).lender, today());
            if (loan != null) {
                rest = Math.max(rest, loan.greatestRest());
            }
        }
        return rest;
    }

    private boolean somethingHangs() {
        for (int i = 0; i < rooms.size(); i++) {
            if (!rooms.get(i).hung.isEmpty()) {
                return true;
            }
        }
        return false;
    }

    /** No loan comes while hours go by, so that one look for each lender and day is enough. */
    private void recallLoansOfDay() {
        for (int lender = 0; lender < LENDERS; lender++) {
            loansOfDay[lender] = inForce(lender, today());
        }
    }

    private void passHour() {
        int hourOfDay = hour % HOURS_OF_DAY;
        for (int i = 0; i < rooms.size(); i++) {
            Room aired = rooms.get(i);
            if (!aired.hung.isEmpty()) {
                aired.takeAir(hourOfDay);
            }
        }
        for (int i = 0; i < works.size(); i++) {
            Work hung = works.get(i);
            if (hung.hangsIn != null) {
                bearHour(hung, hung.hangsIn);
            }
        }
    }

    private void bearHour(Work hung, Room where) {
        int lightBefore = hung.light;
        hung.light += where.luxAt(hour % HOURS_OF_DAY);
        Loan loan = loansOfDay[hung.lender];
        if (loan == null) {
            return;
        }
        for (int i = 0; i < loan.clauses.size(); i++) {
            if (isBreached(loan.clauses.get(i), lightBefore, hung.light, where)) {
                book.note(hour, hung.number, i);
            }
        }
    }

    private boolean isBreached(Clause clause, int lightBefore, int light, Room where) {
        if (clause.kind == Kind.LIGHT) {
            return light > clause.first && lightBefore <= clause.first;
        }
        if (clause.kind == Kind.UNTIL) {
            return today() > clause.first && hour % HOURS_OF_DAY == 0;
        }
        return clause.kind == Kind.DAMP && where.isAirOutside(clause.first, clause.second);
    }

    /** Brings BEST of these works into the hanger, and answers its STEP; NONE without one. */
    private int arrange(Room asked, int bits) {
        if (bits == 0 || Integer.bitCount(bits) > MOST_ARRANGED) {
            return NONE;
        }
        hanger.clear();
        for (int i = 0; i < works.size() && i < TELLABLE_WORKS; i++) {
            if ((bits >> i & 1) == 1) {
                hanger.take(works.get(i));
            }
        }
        if (hanger.lengthTaken > asked.length) {
            return NONE;
        }
        markApart();
        return hanger.findBest();
    }

    private void markApart() {
        for (int i = 0; i < hanger.size; i++) {
            for (int j = 0; j < i; j++) {
                if (areApart(knownWork(hanger.numbers[i]), knownWork(hanger.numbers[j]))) {
                    hanger.keepApart(i, j);
                }
            }
        }
    }

    private static int sumOver(int set, int[] ofCities) {
        int sum = 0;
        for (int city = 0; city < ofCities.length; city++) {
            if ((set >> city & 1) == 1) {
                sum += ofCities[city];
            }
        }
        return sum;
    }

    /** Sets are tried from the least number on, so that a like one never comes in place of the best. */
    private boolean isBetterTour(int set, int best) {
        int gained = sumOver(set, gains);
        int most = sumOver(best, gains);
        return gained > most || gained == most && Integer.bitCount(set) < Integer.bitCount(best);
    }

    // ---- the things that the office keeps

    private static final class Work {
        final int number;
        final int lender;
        final int width;
        final int height;
        final int worth;
        final int chapter;
        final ArrayList<Line> lines = new ArrayList<>();
        int place;
        int which;
        int light;
        Room hangsIn;

        Work(int number, int lender, int width, int height, int worth, int chapter) {
            this.number = number;
            this.lender = lender;
            this.width = width;
            this.height = height;
            this.worth = worth;
            this.chapter = chapter;
        }
    }

    /** A line of a work's HISTORY. */
    private static final class Line {
        final int hour;
        final int place;
        final int which;

        Line(int hour, int place, int which) {
            this.hour = hour;
            this.place = place;
            this.which = which;
        }
    }

    private static final class Room {
        final int city;
        final int length;
        final int lux;
        final int open;
        final int shut;
        final ArrayList<Work> hung = new ArrayList<>();
        Sheet airSheet;
        int airRow;
        int airState;
        int airNumber;
        int unknownHours;

        Room(int city, int length, int lux, int open, int shut) {
            this.city = city;
            this.length = length;
            this.lux = lux;
            this.open = open;
            this.shut = shut;
        }

        int luxAt(int hourOfDay) {
            return hourOfDay >= open && hourOfDay < shut ? lux : 0;
        }

        /** What the hung works take of the wall, the gap ahead of the next one too. */
        int lengthTaken() {
            int taken = 0;
            for (int i = 0; i < hung.size(); i++) {
                taken += hung.get(i).width + GAP;
            }
            return taken;
        }

        void takeAway(Work taken) {
            for (int i = 0; i < hung.size(); i++) {
                if (hung.get(i) == taken) {
                    hung.remove(i);
                    return;
                }
            }
        }

        /** Keeps the AIR of this HOUR for all works that hang here, and counts it if it is UNKNOWN. */
        void takeAir(int hourOfDay) {
            if (airSheet == null || !airSheet.hasNumber(airRow, hourOfDay)) {
                airState = AIR_UNKNOWN;
                unknownHours++;
                return;
            }
            int bits = airSheet.bitsAt(airRow, hourOfDay);
            airState = Sheet.isNoNumber(bits) ? AIR_WORST : AIR_KNOWN;
            airNumber = Sheet.cut(bits);
        }

        boolean isAirOutside(int least, int most) {
            if (airState == AIR_KNOWN) {
                return airNumber < least || airNumber > most;
            }
            return airState == AIR_WORST;
        }
    }

    /** Rows of floats, kept as their bits. */
    private static final class Sheet {
        private static final int MISSING = -1;

        final int[] lengths = new int[ROWS];
        final int[] bits = new int[ROWS * HOURS_OF_DAY];

        Sheet() {
            for (int k = 0; k < ROWS; k++) {
                lengths[k] = MISSING;
            }
        }

        boolean isMissing(int k) {
            return lengths[k] == MISSING;
        }

        boolean hasNumber(int k, int i) {
            return i >= 0 && i < lengths[k];
        }

        void renew(int k, int n) {
            lengths[k] = n;
            for (int i = 0; i < n; i++) {
                bits[k * HOURS_OF_DAY + i] = 0;
            }
        }

        void lose(int k) {
            lengths[k] = MISSING;
        }

        void write(int k, int i, int number) {
            bits[k * HOURS_OF_DAY + i] = number;
        }

        int bitsAt(int k, int i) {
            return bits[k * HOURS_OF_DAY + i];
        }

        static boolean isNoNumber(int bits) {
            return (bits & 0x7fffffff) > 0x7f800000;
        }

        /** The cast of a float to int, done on its bits: LANGUAGE.md leaves no way from bits to a float. */
        static int cut(int bits) {
            int exponent = (bits >>> 23 & 255) - 127;
            if (exponent < 0) {
                return 0;
            }
            if (exponent > 30) {
                return bits < 0 ? LEAST_INT : MOST_INT;
            }
            int mantissa = bits & 0x7fffff | 0x800000;
            int size = exponent > 23 ? mantissa << exponent - 23 : mantissa >> 23 - exponent;
            return bits < 0 ? -size : size;
        }
    }

    private static final class Crate {
        final int wide;
        final int high;
        final ArrayList<Work> load = new ArrayList<>();
        int city = NONE;
        int comes;

        Crate(int wide, int high) {
            this.wide = wide;
            this.high = high;
        }

        boolean isWideEnough(Work packed) {
            return packed.width <= wide && packed.height <= high
                    || packed.height <= wide && packed.width <= high;
        }
    }

    private enum Kind {
        CITIES("cities"), UNTIL("until"), LIGHT("light"), DAMP("damp"), REST("rest"), APART("apart");

        final String word;

        Kind(String word) {
            this.word = word;
        }
    }

    /** A CLAUSE: its N, for "cities" the bits of all of them; for "damp" the second N too. */
    private static final class Clause {
        final Kind kind;
        final int first;
        final int second;

        Clause(Kind kind, int first, int second) {
            this.kind = kind;
            this.first = first;
            this.second = second;
        }

        boolean bars(int city, int day, int light) {
            if (kind == Kind.CITIES) {
                return (first >> city & 1) == 0;
            }
            if (kind == Kind.UNTIL) {
                return day > first;
            }
            return kind == Kind.LIGHT && light > first;
        }
    }

    private static final class Loan {
        final int number;
        final int lender;
        final int day;
        final ArrayList<Clause> clauses = new ArrayList<>();

        Loan(int number, int lender, int day) {
            this.number = number;
            this.lender = lender;
            this.day = day;
        }

        boolean keepsApartFrom(int other) {
            for (int i = 0; i < clauses.size(); i++) {
                Clause clause = clauses.get(i);
                if (clause.kind == Kind.APART && clause.first == other) {
                    return true;
                }
            }
            return false;
        }

        int greatestRest() {
            int rest = 0;
            for (int i = 0; i < clauses.size(); i++) {
                Clause clause = clauses.get(i);
                if (clause.kind == Kind.REST) {
                    rest = Math.max(rest, clause.first);
                }
            }
            return rest;
        }

        int leastLight() {
            int light = MOST_INT;
            for (int i = 0; i < clauses.size(); i++) {
                Clause clause = clauses.get(i);
                if (clause.kind == Kind.LIGHT) {
                    light = Math.min(light, clause.first);
                }
            }
            return light;
        }

        /** Bits of the CITIES that no "cities" bars. */
        int openCities() {
            int open = (1 << TravellingPictures.CITIES) - 1;
            for (int i = 0; i < clauses.size(); i++) {
                Clause clause = clauses.get(i);
                if (clause.kind == Kind.CITIES) {
                    open &= clause.first;
                }
            }
            return open;
        }
    }

    /** Reads the text of a loan; its first fault's PLACE is kept, and nothing is read behind it. */
    private static final class Reader {
        private static final int MOST_DIGITS = 6;
        private static final int MOST_NUMBER = 999999;

        final byte[] text;
        final int length;
        final ArrayList<Clause> clauses;
        int at;
        int fault = NONE;

        Reader(byte[] text, int length, ArrayList<Clause> clauses) {
            this.text = text;
            this.length = length;
            this.clauses = clauses;
        }

        void readText() {
            skipBlanks();
            for (int i = 0; i <= MOST_CLAUSES && at < length && fault == NONE; i++) {
                readClause();
                skipBlanks();
            }
        }

        private void readClause() {
            int start = at;
            Kind kind = readWord();
            if (kind == null || clauses.size() >= MOST_CLAUSES) {
                failAt(start);
                return;
            }
            int first = kind == Kind.CITIES ? readCities() : readNumber(mostOf(kind));
            int second = 0;
            if (kind == Kind.DAMP) {
                readSign('-');
                second = readNumber(MOST_NUMBER);
            }
            readSign(';');
            if (fault == NONE) {
                clauses.add(new Clause(kind, first, second));
            }
        }

        private static int mostOf(Kind kind) {
            return kind == Kind.APART ? LENDERS - 1 : MOST_NUMBER;
        }

        private Kind readWord() {
            int start = at;
            while (at < length && text[at] >= 'a' && text[at] <= 'z') {
                at++;
            }
            for (int i = 0; i < KINDS.length; i++) {
                if (isWord(KINDS[i].word, start)) {
                    return KINDS[i];
                }
            }
            return null;
        }

        private boolean isWord(String word, int start) {
            if (word.length() != at - start) {
                return false;
            }
            for (int i = 0; i < word.length(); i++) {
                if (text[start + i] != word.charAt(i)) {
                    return false;
                }
            }
            return true;
        }

        private int readCities() {
            int cities = 0;
            for (int i = 0; i < MOST_TAPE && fault == NONE && (i == 0 || isDigitNext()); i++) {
                int city = readNumber(TravellingPictures.CITIES - 1);
                if (fault == NONE) {
                    cities |= 1 << city;
                }
            }
            return cities;
        }

        private boolean isDigitNext() {
            skipBlanks();
            return isDigit();
        }

        /** A seventh digit fails where it stands: what it is part of is no NUMBER that could be too great. */
        private int readNumber(int most) {
            if (fault != NONE) {
                return 0;
            }
            skipBlanks();
            int start = at;
            int number = 0;
            for (int digits = 0; digits < MOST_DIGITS && isDigit(); digits++) {
                number = number * 10 + text[at] - '0';
                at++;
            }
            if (at == start || isDigit()) {
                failAt(at);
            } else if (number > most) {
                failAt(start);
            }
            return number;
        }

        private void readSign(char sign) {
            if (fault != NONE) {
                return;
            }
            skipBlanks();
            if (at < length && text[at] == sign) {
                at++;
            } else {
                failAt(at);
            }
        }

        private void skipBlanks() {
            while (at < length && text[at] == ' ') {
                at++;
            }
        }

        private boolean isDigit() {
            return at < length && text[at] >= '0' && text[at] <= '9';
        }

        private void failAt(int place) {
            fault = place;
        }
    }

    /** The BOOK of breaches: all are counted, the first are kept. */
    private static final class Book {
        final int[] hours = new int[MOST_BOOK];
        final int[] works = new int[MOST_BOOK];
        final int[] clauses = new int[MOST_BOOK];
        int counted;

        void note(int hour, int work, int clause) {
            if (counted < MOST_BOOK) {
                hours[counted] = hour;
                works[counted] = work;
                clauses[counted] = clause;
            }
            counted++;
        }

        int kept() {
            return Math.min(counted, MOST_BOOK);
        }
    }

    /**
     * Finds BEST for a few works. Which works may still follow depends only on the set of those that
     * stand and on the last of them, so the least STEP is kept for each such pair and not for each order.
     */
    private static final class Hanger {
        private static final int NO_WAY = 1000000;

        final int[] numbers = new int[MOST_ARRANGED];
        final int[] heights = new int[MOST_ARRANGED];
        final int[] chapters = new int[MOST_ARRANGED];
        final int[] apart = new int[MOST_ARRANGED];
        final int[] mates = new int[MOST_ARRANGED];
        final int[] least = new int[(1 << MOST_ARRANGED) * MOST_ARRANGED];
        final int[] best = new int[MOST_ARRANGED];
        int size;
        int lengthTaken;

        void clear() {
            size = 0;
            lengthTaken = 0;
        }

        void take(Work taken) {
            if (size >= MOST_ARRANGED) {
                return;
            }
            lengthTaken += taken.width + (size == 0 ? 0 : GAP);
            numbers[size] = taken.number;
            heights[size] = taken.height;
            chapters[size] = taken.chapter;
            apart[size] = 0;
            size++;
        }

        void keepApart(int i, int j) {
            apart[i] |= 1 << j;
            apart[j] |= 1 << i;
        }

        int findBest() {
            findMates();
            for (int set = (1 << size) - 1; set > 0; set--) {
                for (int last = 0; last < size; last++) {
                    if ((set >> last & 1) == 1) {
                        least[set * MOST_ARRANGED + last] = leastBehind(set, last);
                    }
                }
            }
            int first = leastFirst();
            int steps = least[(1 << first) * MOST_ARRANGED + first];
            if (steps >= NO_WAY) {
                return NONE;
            }
            writeBest(first);
            return steps;
        }

        private void findMates() {
            for (int i = 0; i < size; i++) {
                mates[i] = 1 << i;
                for (int j = 0; j < size; j++) {
                    if (chapters[i] != 0 && chapters[i] == chapters[j]) {
                        mates[i] |= 1 << j;
                    }
                }
            }
        }

        /** The least STEP of all that come behind the last of a set of works. */
        private int leastBehind(int set, int last) {
            if (set == (1 << size) - 1) {
                return 0;
            }
            int found = NO_WAY;
            for (int next = 0; next < size; next++) {
                if (mayFollow(set, last, next)) {
                    found = Math.min(found, stepsThrough(set, last, next));
                }
            }
            return found;
        }

        private int stepsThrough(int set, int last, int next) {
            return Math.abs(heights[last] - heights[next]) + least[(set | 1 << next) * MOST_ARRANGED + next];
        }

        /** A chapter that was begun is ended ahead of any other work. */
        private boolean mayFollow(int set, int last, int next) {
            boolean ended = (mates[last] & ~set) == 0 || (mates[last] >> next & 1) == 1;
            return (set >> next & 1) == 0 && (apart[last] >> next & 1) == 0 && ended;
        }

        private int leastFirst() {
            int first = 0;
            for (int i = 1; i < size; i++) {
                if (least[(1 << i) * MOST_ARRANGED + i] < least[(1 << first) * MOST_ARRANGED + first]) {
                    first = i;
                }
            }
            return first;
        }

        private void writeBest(int first) {
            int set = 1 << first;
            int last = first;
            best[0] = numbers[first];
            for (int k = 1; k < size; k++) {
                last = nextOfBest(set, last);
                set |= 1 << last;
                best[k] = numbers[last];
            }
        }

        /** The works are in the order of their numbers, so the first that keeps the least STEP is due. */
        private int nextOfBest(int set, int last) {
            for (int next = 0; next < size; next++) {
                if (mayFollow(set, last, next)
                        && stepsThrough(set, last, next) == least[set * MOST_ARRANGED + last]) {
                    return next;
                }
            }
            return last;
        }
    }
}

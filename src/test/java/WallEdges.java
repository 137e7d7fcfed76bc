/** Edges of the promises 21 to 24, 26 and 27: hang, down, wall, wait, breaches, breach; and of what hours bring. */
final class WallEdges {
    private static final int LEAST = Integer.MIN_VALUE;
    private static final int MOST = Integer.MAX_VALUE;

    private static final String NO_WORK = "NoSuchElementException: no such WORK (so below)";
    private static final String NO_ROOM = "NoSuchElementException: no such ROOM (so below)";

    private WallEdges() {
    }

    static void all() {
        notInTheStore();
        noSuch();
        barredToday();
        tooShort();
        apart();
        firstRefusalOfHang();
        fortyOnAWall();
        down();
        wall();
        waitHours();
        lastHour();
        days();
        hoursOneByOne();
        lightBreach();
        untilBreach();
        dampBreach();
        loanOfThatDay();
        orderOfBreaches();
        book();
        breach();
    }

    // ---- 21: hang

    private static void notInTheStore() {
        Edge.of(21, "-1 it is not in the STORE there").call(x -> x.work(0, 10, 10, 0, 0)).call(x -> x.crate(10, 10))
                .call(x -> x.room(2, 10, 0, 0, 0)).call(x -> x.room(3, 10, 0, 0, 0)).call(x -> x.room(2, 10, 0, 0, 0))
                .refuses(-1, x -> x.hang(0, 0)).call(x -> x.pack(0, 0)).refuses(-1, x -> x.hang(0, 0))
                .call(x -> x.send(0, 2, 1)).refuses(-1, x -> x.hang(0, 0)).call(x -> x.wait(1))
                .refuses(-1, x -> x.hang(0, 0))
                .call(x -> x.unpack(0)).refuses(-1, x -> x.hang(0, 1)).due(1, x -> x.hang(0, 0))
                .refuses(-1, x -> x.hang(0, 0)).refuses(-1, x -> x.hang(0, 2)).refuses(-1, x -> x.hang(0, 1));
        Edge.of(21, "-1 it is not in the STORE there").call(x -> x.room(0, 10, 0, 0, 0)).call(x -> x.work(0, 10, 10, 0, 0))
                .refuses(-1, x -> x.hang(0, 0));
        Edge.of(21, "HUNG: how many hang in the ROOM").stored(0, 0, 0, 0).call(x -> x.room(0, 100, 0, 0, 0))
                .call(x -> x.room(0, 100, 0, 0, 0))
                .due(1, x -> x.hang(1, 0)).due(1, x -> x.hang(2, 1)).due(2, x -> x.hang(0, 0));
    }

    private static void noSuch() {
        Edge works = Edge.of(21, NO_WORK).stored(0, 0, 0).call(x -> x.room(0, 100, 0, 0, 0)).due(1, x -> x.hang(1, 0));
        for (int wrong : Edge.outside(0, 1)) {
            works.refuses(Edge.ELEMENT, x -> x.hang(wrong, 0));
        }
        Edge rooms = Edge.of(21, NO_ROOM).stored(0, 0, 0).call(x -> x.room(0, 100, 0, 0, 0)).due(1, x -> x.hang(1, 0));
        for (int wrong : Edge.outside(0, 0)) {
            rooms.refuses(Edge.ELEMENT, x -> x.hang(0, wrong)).refuses(Edge.ELEMENT, x -> x.hang(1, wrong))
                    .refuses(Edge.ELEMENT, x -> x.hang(-1, wrong));
        }
        Edge down = Edge.of(22, NO_WORK).stored(0, 0, 0).call(x -> x.room(0, 100, 0, 0, 0)).call(x -> x.hang(1, 0));
        for (int wrong : Edge.outside(0, 1)) {
            down.refuses(Edge.ELEMENT, x -> x.down(wrong));
        }
        down.due(0, x -> x.down(1));
        Edge wall = Edge.of(23, NO_ROOM).times(2, x -> x.room(0, 100, 0, 0, 0)).due(-1, x -> x.wall(1, 0));
        for (int wrong : Edge.outside(0, 1)) {
            wall.refuses(Edge.ELEMENT, x -> x.wall(wrong, 0)).refuses(Edge.ELEMENT, x -> x.wall(wrong, -1));
        }
    }

    private static void barredToday() {
        String sentence = "HUNG: a WORK that is in the STORE of the ROOM's CITY, not BARRED there today, goes on the WALL";
        Edge.of(21, sentence).stored(4, 0).call(x -> x.room(4, 10, 0, 0, 0)).loan("cities 0 1 2 3;", 0, 0)
                .refuses(-2, x -> x.hang(0, 0)).loan("cities 4;", 0, 0).due(1, x -> x.hang(0, 0));
        Edge.of(21, sentence).loan("until 0;", 0, 0).stored(0, 0).call(x -> x.room(0, 10, 0, 0, 0)).until(23)
                .due(1, x -> x.hang(0, 0));
        Edge.of(21, sentence).loan("until 0;", 0, 0).stored(0, 0).call(x -> x.room(0, 10, 0, 0, 0)).until(24)
                .refuses(-2, x -> x.hang(0, 0));
        Edge.of(21, sentence).loan("cities 1;", 0, 1).stored(0, 0).call(x -> x.room(0, 10, 0, 0, 0)).until(23)
                .due(1, x -> x.hang(0, 0))
                .call(x -> x.down(0)).until(24).refuses(-2, x -> x.hang(0, 0));
        Edge.of(21, "-2 it is BARRED").stored(0, 0).call(x -> x.room(0, 10, 10, 0, 24)).call(x -> x.hang(0, 0))
                .call(x -> x.wait(3))
                .call(x -> x.down(0)).loan("light 29;", 0, 0).refuses(-2, x -> x.hang(0, 0)).loan("light 30;", 0, 0)
                .due(1, x -> x.hang(0, 0));
        Edge.of(21, "-2 it is BARRED").loan("cities 1;", 1, 0).stored(0, 0, 1).call(x -> x.room(0, 100, 0, 0, 0))
                .due(1, x -> x.hang(0, 0)).refuses(-2, x -> x.hang(1, 0));
    }

    private static void tooShort() {
        String sentence = "if WIDTHS of what hangs there and its own, and 30 between two neighbours, are LENGTH or less";
        Edge walls = Edge.of(21, sentence).call(x -> x.work(0, 100, 1, 0, 0)).call(x -> x.work(0, 50, 1, 0, 0))
                .call(x -> x.work(0, 7, 1, 0, 0))
                .delivers(0, 0, 1, 2);
        for (int length : new int[] {99, 100, 179, 180, 216, 217}) {
            walls.call(x -> x.room(0, length, 0, 0, 0));
        }
        walls.refuses(-3, x -> x.hang(0, 0)).due(1, x -> x.hang(0, 1)).refuses(-3, x -> x.hang(1, 1)).call(x -> x.down(0))
                .due(1, x -> x.hang(0, 2)).refuses(-3, x -> x.hang(1, 2)).call(x -> x.down(0))
                .due(1, x -> x.hang(0, 3)).due(2, x -> x.hang(1, 3)).refuses(-3, x -> x.hang(2, 3)).call(x -> x.down(0))
                .call(x -> x.down(1))
                .due(1, x -> x.hang(0, 4)).due(2, x -> x.hang(1, 4)).refuses(-3, x -> x.hang(2, 4)).call(x -> x.down(0))
                .call(x -> x.down(1))
                .due(1, x -> x.hang(0, 5)).due(2, x -> x.hang(1, 5)).due(3, x -> x.hang(2, 5)).call(x -> x.down(1))
                .due(3, x -> x.hang(1, 5));
        Edge.of(21, "-3 the wall is too short").call(x -> x.work(0, 500, 500, 0, 0)).call(x -> x.work(0, 1, 500, 0, 0))
                .delivers(0, 0, 1)
                .call(x -> x.room(0, 499, 0, 0, 0)).call(x -> x.room(0, 500, 0, 0, 0)).call(x -> x.room(0, 1, 0, 0, 0))
                .refuses(-3, x -> x.hang(0, 0)).due(1, x -> x.hang(0, 1)).due(1, x -> x.hang(1, 2));
    }

    private static void apart() {
        String sentence = "no \"apart\" of a LOAN in force, of it or of one that hangs there, names the other one's LENDER.";
        Edge.of(21, sentence).stored(0, 0, 1, 9).call(x -> x.room(0, 100, 0, 0, 0)).call(x -> x.room(0, 100, 0, 0, 0))
                .loan("apart 9; apart 0;", 1, 0)
                .due(1, x -> x.hang(0, 0)).refuses(-4, x -> x.hang(1, 0)).due(1, x -> x.hang(1, 1))
                .refuses(-4, x -> x.hang(2, 1))
                .due(2, x -> x.hang(2, 0));
        Edge.of(21, sentence).stored(0, 0, 1, 2).call(x -> x.room(0, 100, 0, 0, 0)).loan("apart 2;", 0, 0)
                .due(1, x -> x.hang(0, 0)).due(2, x -> x.hang(1, 0)).refuses(-4, x -> x.hang(2, 0));
        Edge.of(21, sentence).stored(0, 3, 3).call(x -> x.room(0, 100, 0, 0, 0)).loan("apart 3;", 3, 0)
                .due(1, x -> x.hang(0, 0)).refuses(-4, x -> x.hang(1, 0)).call(x -> x.down(0)).due(1, x -> x.hang(1, 0));
        Edge.of(21, "-4 \"apart\".").stored(0, 0, 1).call(x -> x.room(0, 100, 0, 0, 0)).loan("apart 1;", 0, 1)
                .call(x -> x.hang(0, 0))
                .until(23).due(2, x -> x.hang(1, 0)).call(x -> x.down(1)).until(24).refuses(-4, x -> x.hang(1, 0))
                .call(x -> x.loan(0, 0, 1)).due(2, x -> x.hang(1, 0));
        Edge.of(21, "-4 \"apart\".").stored(0, 0, 1).call(x -> x.room(0, 100, 0, 0, 0)).loan("apart 1;", 2, 0)
                .loan("apart 2;", 0, 0)
                .due(1, x -> x.hang(0, 0)).due(2, x -> x.hang(1, 0));
    }

    /** Work 0 hangs; work 1 is barred, too wide and to be kept apart, and each of these is mended in turn. */
    private static void firstRefusalOfHang() {
        Edge order = Edge.of(21, "or, the first of these").call(x -> x.work(0, 10, 10, 0, 0))
                .call(x -> x.work(1, 100, 10, 0, 0)).delivers(0, 0, 1)
                .call(x -> x.room(0, 100, 0, 0, 0)).call(x -> x.room(1, 5, 0, 0, 0)).call(x -> x.room(0, 140, 0, 0, 0))
                .call(x -> x.hang(0, 0));
        order.loan("apart 0; cities 4;", 1, 0).refuses(-1, x -> x.hang(1, 1)).refuses(-2, x -> x.hang(1, 0))
                .loan("apart 0;", 1, 0).refuses(-1, x -> x.hang(1, 1)).refuses(-3, x -> x.hang(1, 0))
                .call(x -> x.down(0)).call(x -> x.hang(0, 2)).refuses(-4, x -> x.hang(1, 2))
                .loan("apart 0; cities 4;", 1, 0).refuses(-2, x -> x.hang(1, 2))
                .call(x -> x.loan(0, 1, 0)).due(2, x -> x.hang(1, 2));
        Edge.of(21, "or, the first of these").loan("apart 0; cities 4;", 0, 0).call(x -> x.work(0, 10, 10, 0, 0))
                .call(x -> x.room(0, 5, 0, 0, 0))
                .refuses(-1, x -> x.hang(0, 0));
    }

    private static void fortyOnAWall() {
        Edge full = Edge.of(21, "It goes to the right end.").times(40, x -> x.work(0, 1, 1, 0, 0))
                .call(x -> x.room(0, 1210, 0, 0, 0));
        for (int i = 0; i < 40; i += 4) {
            full.delivers(0, i, i + 1, i + 2, i + 3);
        }
        for (int i = 0; i < 40; i++) {
            int work = 39 - i;
            full.due(i + 1, x -> x.hang(work, 0));
        }
        for (int i = 0; i < 40; i++) {
            int k = i;
            full.due(39 - k, x -> x.wall(0, k));
        }
        full.due(-1, x -> x.wall(0, 40)).due(39, x -> x.down(20)).due(19, x -> x.wall(0, 19)).due(0, x -> x.wall(0, 38))
                .due(-1, x -> x.wall(0, 39)).due(40, x -> x.hang(20, 0)).due(20, x -> x.wall(0, 39));
    }

    // ---- 22 and 23: down, wall

    private static void down() {
        Edge.of(22, "TAKEN DOWN: how many hang there then; -1: it doesn't hang.").stored(3, 0, 0, 0)
                .call(x -> x.work(0, 10, 10, 0, 0)).call(x -> x.work(0, 10, 10, 0, 0)).call(x -> x.crate(10, 10))
                .call(x -> x.pack(4, 1))
                .call(x -> x.room(3, 100, 0, 0, 0)).call(x -> x.room(3, 100, 0, 0, 0))
                .refuses(-1, x -> x.down(0)).refuses(-1, x -> x.down(3)).refuses(-1, x -> x.down(4))
                .call(x -> x.hang(0, 0)).call(x -> x.hang(1, 0)).call(x -> x.hang(2, 1))
                .due(1, x -> x.down(0)).refuses(-1, x -> x.down(0)).due(0, x -> x.down(1)).due(0, x -> x.down(2))
                .refuses(-1, x -> x.down(2));
        Edge.of(22, "TAKEN DOWN: to the STORE.").stored(4, 0).call(x -> x.room(4, 10, 0, 0, 0)).call(x -> x.hang(0, 0))
                .call(x -> x.wait(2))
                .due(0, x -> x.down(0)).due(1, x -> x.told(0, 5)).due(4, x -> x.told(0, 6)).due(3, x -> x.history(0, 4, 0))
                .due(17, x -> x.lead(0, 3)).due(1, x -> x.hang(0, 0));
    }

    private static void wall() {
        Edge order = Edge.of(23, "The k-th WORK on a ROOM's WALL, from the left; NONE.").stored(0, 0, 0, 0, 0)
                .call(x -> x.room(0, 1000, 0, 0, 0)).call(x -> x.room(0, 1000, 0, 0, 0))
                .refuses(-1, x -> x.wall(0, 0)).call(x -> x.hang(2, 0)).call(x -> x.hang(0, 0)).call(x -> x.hang(3, 0))
                .call(x -> x.hang(1, 1))
                .due(2, x -> x.wall(0, 0)).due(0, x -> x.wall(0, 1)).due(3, x -> x.wall(0, 2)).due(1, x -> x.wall(1, 0));
        for (int wrong : Edge.outside(0, 2)) {
            order.refuses(-1, x -> x.wall(0, wrong));
        }
        order.call(x -> x.down(0)).due(2, x -> x.wall(0, 0)).due(3, x -> x.wall(0, 1)).due(-1, x -> x.wall(0, 2))
                .call(x -> x.down(2)).due(3, x -> x.wall(0, 0)).call(x -> x.down(3)).due(-1, x -> x.wall(0, 0));
    }

    // ---- 24: wait

    private static void waitHours() {
        Edge hours = Edge.of(24, "IllegalArgumentException: they are not 0 to 1,000").stored(0, 0)
                .call(x -> x.room(0, 10, 1, 0, 24))
                .call(x -> x.hang(0, 0)).due(1, x -> x.wait(0)).due(0, x -> x.told(0, 7)).due(0, x -> x.unknown(0))
                .due(1001, x -> x.wait(1000)).due(1000, x -> x.told(0, 7)).due(1002, x -> x.wait(1));
        for (int wrong : Edge.outside(0, 1000)) {
            hours.refuses(Edge.ARGUMENT, x -> x.wait(wrong));
        }
        Edge.of(24, "So many HOURS go by: HOUR.").due(0, x -> x.wait(0)).due(24, x -> x.wait(24)).due(24, x -> x.wait(0))
                .due(24, x -> x.count(5));
    }

    private static void lastHour() {
        String sentence = "IllegalStateException: HOUR would be above 200,000.";
        Edge last = Edge.of(24, sentence).stored(0, 0).call(x -> x.room(0, 10, 1000, 0, 24)).call(x -> x.hang(0, 0))
                .until(199999)
                .refuses(Edge.STATE, x -> x.wait(2)).refuses(Edge.STATE, x -> x.wait(1000)).due(199999, x -> x.wait(0))
                .due(200000, x -> x.wait(1)).refuses(Edge.STATE, x -> x.wait(1)).refuses(Edge.STATE, x -> x.wait(1000))
                .due(200000, x -> x.wait(0)).due(200000, x -> x.count(5));
        last.refuses(Edge.ARGUMENT, x -> x.wait(1001)).refuses(Edge.ARGUMENT, x -> x.wait(-1))
                .refuses(Edge.ARGUMENT, x -> x.wait(MOST))
                .refuses(Edge.ARGUMENT, x -> x.wait(LEAST)).due(199999000, x -> x.told(0, 7)).due(199999, x -> x.unknown(0));
        Edge.of(24, sentence).until(199000).due(200000, x -> x.wait(1000)).refuses(Edge.STATE, x -> x.wait(1));
        Edge.of(24, sentence).until(199001).refuses(Edge.STATE, x -> x.wait(1000)).due(200000, x -> x.wait(999));
    }

    private static void days() {
        Edge.of(24, "DAY: HOUR / 24, cut").call(x -> x.work(0, 1, 1, 0, 0)).loan("cities 0;", 0, 0).loan("cities 1;", 0, 1)
                .loan("cities 2;", 0, 2)
                .call(x -> x.gain(0, 0, 1)).call(x -> x.gain(1, 0, 1)).call(x -> x.gain(2, 0, 1))
                .due(1, x -> x.tour(0)).until(23).due(1, x -> x.tour(0)).until(24).due(2, x -> x.tour(0)).until(47)
                .due(2, x -> x.tour(0))
                .until(48).due(4, x -> x.tour(0));
        Edge.of(24, "its hour of the day: HOUR % 24.").stored(0, 0).call(x -> x.room(0, 10, 1, 0, 1)).call(x -> x.hang(0, 0))
                .until(24).due(0, x -> x.told(0, 7)).until(25).due(1, x -> x.told(0, 7)).until(48).due(1, x -> x.told(0, 7))
                .until(49).due(2, x -> x.told(0, 7));
    }

    /** A loan that is always breached by known air, and air that is known in all hours: a breach an hour. */
    private static Edge breachedHourly(int promise, String sentence) {
        return Edge.of(promise, sentence).loan("damp 1-0;", 0, 0).stored(0, 0).call(x -> x.room(0, 10, 0, 0, 0))
                .call(x -> x.hang(0, 0))
                .call(x -> x.sheet()).call(x -> x.row(0, 0, 24)).call(x -> x.air(0, 0, 0));
    }

    private static void hoursOneByOne() {
        breachedHourly(24, "HOURS go by one by one. In each (HOUR being its number, then one more)").due(4, x -> x.wait(3))
                .breachesAre(new int[] {1, 0, 0}, new int[] {2, 0, 0}, new int[] {3, 0, 0}).due(4, x -> x.wait(0))
                .due(3, x -> x.breaches());
        breachedHourly(24, "HOURS go by one by one. In each (HOUR being its number, then one more)").due(2, x -> x.wait(1))
                .due(3, x -> x.wait(1)).due(4, x -> x.wait(1))
                .breachesAre(new int[] {1, 0, 0}, new int[] {2, 0, 0}, new int[] {3, 0, 0});
        Edge.of(24, "its LIGHT (0 at first) grows by the ROOM's LUX").stored(0, 0, 0, 0)
                .call(x -> x.room(0, 100, 1000, 0, 24))
                .call(x -> x.room(0, 100, 3, 0, 24)).due(0, x -> x.told(0, 7)).call(x -> x.wait(5)).due(0, x -> x.told(0, 7))
                .call(x -> x.hang(0, 0)).call(x -> x.hang(1, 1)).call(x -> x.wait(2)).due(2000, x -> x.told(0, 7))
                .due(6, x -> x.told(1, 7))
                .due(0, x -> x.told(2, 7)).call(x -> x.down(0)).call(x -> x.wait(1)).due(2000, x -> x.told(0, 7))
                .due(9, x -> x.told(1, 7))
                .call(x -> x.hang(0, 1)).call(x -> x.wait(1)).due(2003, x -> x.told(0, 7)).due(12, x -> x.told(1, 7));
    }

    // ---- 26 and 27: breaches

    /** Work 0 hangs from hour 1 on in a room of lux 10 by day and night. */
    private static Edge lit(String sentence) {
        return Edge.of(26, sentence).stored(0, 0).call(x -> x.room(0, 10, 10, 0, 24)).call(x -> x.hang(0, 0));
    }

    private static void lightBreach() {
        String sentence = "\"light\" N: LIGHT is above N, and was not ahead of this HOUR";
        lit(sentence).loan("light 20;", 0, 0).until(3).breachesAre().until(4).breachesAre(new int[] {3, 0, 0}).until(30)
                .breachesAre(new int[] {3, 0, 0});
        lit(sentence).loan("light 19;", 0, 0).until(2).breachesAre().until(30).breachesAre(new int[] {2, 0, 0});
        lit(sentence).loan("light 0;", 0, 0).until(30).breachesAre(new int[] {1, 0, 0});
        lit(sentence).until(3).loan("light 19;", 0, 0).until(30).breachesAre();
        lit(sentence).until(3).loan("light 20;", 0, 0).until(30).breachesAre(new int[] {3, 0, 0});
        lit(sentence).until(3).loan("light 999999;", 0, 0).until(30).breachesAre();
        lit(sentence).loan("light 30; rest 1; light 20; light 30;", 0, 0).until(30)
                .breachesAre(new int[] {3, 0, 2}, new int[] {4, 0, 0}, new int[] {4, 0, 3});
        Edge.of(26, sentence).stored(0, 0).call(x -> x.room(0, 10, 0, 0, 24)).call(x -> x.hang(0, 0)).loan("light 0;", 0, 0)
                .until(30).breachesAre();
    }

    private static void untilBreach() {
        String sentence = "\"until\" N: the DAY is above N, and it is the first hour of that day";
        lit(sentence).loan("until 0;", 0, 0).until(24).breachesAre().until(25).breachesAre(new int[] {24, 0, 0}).until(48)
                .breachesAre(new int[] {24, 0, 0}).until(49).breachesAre(new int[] {24, 0, 0}, new int[] {48, 0, 0});
        lit(sentence).loan("until 1;", 0, 0).until(48).breachesAre().until(72).breachesAre(new int[] {48, 0, 0});
        lit(sentence).until(25).loan("until 0;", 0, 0).until(48).breachesAre().until(49).breachesAre(new int[] {48, 0, 0});
        lit(sentence).until(24).loan("until 0;", 0, 0).until(48).breachesAre(new int[] {24, 0, 0});
        lit(sentence).loan("until 999999;", 0, 0).until(72).breachesAre();
    }

    private static void dampBreach() {
        String sentence = "\"damp\" A - B: the AIR is below A, above B, or WORST.";
        float[] air = {39f, 39.99f, 40f, 60f, 60.99f, 61f, Float.NaN, -1f};
        boolean[] breached = {true, true, false, false, false, true, true, true};
        for (int i = 0; i < air.length; i++) {
            int bits = Float.floatToRawIntBits(air[i]);
            int due = breached[i] ? 1 : 0;
            Edge.of(26, sentence).loan("damp 40-60;", 0, 0).stored(0, 0).call(x -> x.room(0, 10, 0, 0, 0))
                    .call(x -> x.hang(0, 0))
                    .call(x -> x.sheet()).call(x -> x.row(0, 0, 24)).call(x -> x.air(0, 0, 0))
                    .call(x -> x.put(0, 0, 2, bits))
                    .until(2).due(1, x -> x.breaches()).until(3).due(1 + due, x -> x.breaches());
        }
        Edge.of(26, sentence).loan("damp 0-0; damp 5-5; damp 6-4; damp 4-6;", 0, 0).stored(0, 0)
                .call(x -> x.room(0, 10, 0, 0, 0))
                .call(x -> x.hang(0, 0)).call(x -> x.sheet()).call(x -> x.row(0, 0, 24)).call(x -> x.air(0, 0, 0))
                .call(x -> x.put(0, 0, 1, Float.floatToRawIntBits(5f))).until(2)
                .breachesAre(new int[] {1, 0, 0}, new int[] {1, 0, 2});
        Edge.of(26, sentence).loan("damp 1-0;", 0, 0).stored(0, 0).call(x -> x.room(0, 10, 0, 0, 0)).call(x -> x.hang(0, 0))
                .until(50).breachesAre();
    }

    private static void loanOfThatDay() {
        String sentence = "then BREACHES of the LOAN in force on that DAY, CLAUSE by CLAUSE";
        Edge.of(26, sentence).stored(0, 4).call(x -> x.room(0, 10, 0, 0, 0)).call(x -> x.hang(0, 0))
                .call(x -> x.loan(0, 4, 2))
                .loan("rest 0; until 0;", 4, 1).loan("until 0;", 5, 0).loan("until 2;", 4, 3).call(x -> x.wait(100))
                .breachesAre(new int[] {24, 0, 1}, new int[] {72, 0, 0}, new int[] {96, 0, 0});
        Edge.of(26, sentence).stored(0, 0).call(x -> x.room(0, 10, 10, 0, 24)).call(x -> x.hang(0, 0))
                .loan("light 200;", 0, 0).loan("light 250;", 0, 1)
                .call(x -> x.wait(100)).breachesAre(new int[] {21, 0, 0}, new int[] {26, 0, 0});
        Edge.of(26, sentence).stored(0, 0).call(x -> x.room(0, 10, 10, 0, 24)).call(x -> x.hang(0, 0))
                .loan("rest 9; cities 4; apart 0;", 0, 0)
                .call(x -> x.wait(100)).breachesAre();
        Edge.of(26, "Without a LOAN nothing is barred, and nothing breached.").stored(0, 0)
                .call(x -> x.room(0, 10, 1000, 0, 24)).call(x -> x.hang(0, 0))
                .loan("light 0; until 0; damp 1-0;", 1, 0).loan("light 0; until 0; damp 1-0;", 0, 3).call(x -> x.sheet())
                .call(x -> x.row(0, 0, 24))
                .call(x -> x.air(0, 0, 0)).until(72).breachesAre().until(73)
                .breachesAre(new int[] {72, 0, 1}, new int[] {72, 0, 2});
    }

    private static void orderOfBreaches() {
        Edge.of(27, "for each WORK on a WALL, in order").loan("until 0; light 0;", 0, 0).stored(0, 0, 0, 0)
                .call(x -> x.room(0, 100, 1, 0, 1))
                .call(x -> x.room(0, 100, 1, 0, 1)).call(x -> x.hang(2, 0)).call(x -> x.hang(1, 1)).call(x -> x.hang(0, 0))
                .until(25)
                .breachesAre(new int[] {24, 0, 0}, new int[] {24, 0, 1}, new int[] {24, 1, 0}, new int[] {24, 1, 1},
                        new int[] {24, 2, 0}, new int[] {24, 2, 1});
        Edge.of(27, "BREACHES in order: HOUR, WORK, CLAUSE").loan("damp 1-0; damp 1-0;", 0, 0).stored(0, 0, 0)
                .call(x -> x.room(0, 100, 0, 0, 0))
                .call(x -> x.sheet()).call(x -> x.row(0, 0, 24)).call(x -> x.air(0, 0, 0)).call(x -> x.hang(1, 0))
                .call(x -> x.hang(0, 0)).until(3)
                .breachesAre(new int[] {1, 0, 0}, new int[] {1, 0, 1}, new int[] {1, 1, 0}, new int[] {1, 1, 1},
                        new int[] {2, 0, 0}, new int[] {2, 0, 1}, new int[] {2, 1, 0}, new int[] {2, 1, 1});
        Edge.of(27, "CLAUSE by CLAUSE").loan("rest 0;".repeat(9) + "until 0;", 0, 0).stored(0, 0)
                .call(x -> x.room(0, 10, 0, 0, 0))
                .call(x -> x.hang(0, 0)).until(25).breachesAre(new int[] {24, 0, 9});
    }

    private static void book() {
        breachedHourly(26, "the first 200 are kept, all are counted.").until(200).due(199, x -> x.breaches())
                .due(199, x -> x.breach(198, 0))
                .due(-1, x -> x.breach(199, 0)).until(201).due(200, x -> x.breaches()).due(200, x -> x.breach(199, 0))
                .due(-1, x -> x.breach(200, 0)).until(202).due(201, x -> x.breaches()).due(200, x -> x.breach(199, 0))
                .due(1, x -> x.breach(0, 0)).due(-1, x -> x.breach(200, 0)).due(-1, x -> x.breach(201, 0))
                .until(1201).due(1200, x -> x.breaches()).due(200, x -> x.breach(199, 0)).due(-1, x -> x.breach(200, 0));
        Edge.of(26, "How many BREACHES there were in all.").due(0, x -> x.breaches());
    }

    private static void breach() {
        Edge kept = Edge.of(27, "Of the k-th BREACH that is kept: 0 HOUR, 1 WORK, 2 CLAUSE; NONE without one.")
                .loan("rest 0; damp 1-0;", 0, 0)
                .stored(0, 5, 0).call(x -> x.room(0, 100, 0, 0, 0)).call(x -> x.hang(1, 0)).call(x -> x.sheet())
                .call(x -> x.row(0, 0, 24))
                .call(x -> x.air(0, 0, 0)).until(8);
        kept.due(7, x -> x.breaches()).due(1, x -> x.breach(0, 0)).due(1, x -> x.breach(0, 1)).due(1, x -> x.breach(0, 2))
                .due(7, x -> x.breach(6, 0)).due(1, x -> x.breach(6, 1)).due(1, x -> x.breach(6, 2));
        for (int wrong : Edge.outside(0, 6)) {
            for (int i = 0; i < 3; i++) {
                int what = i;
                kept.refuses(-1, x -> x.breach(wrong, what));
            }
        }
        Edge another = Edge.of(27, "IllegalArgumentException: another what.").loan("damp 1-0;", 0, 0)
                .refuses(Edge.ARGUMENT, x -> x.breach(0, 3));
        for (int wrong : Edge.outside(0, 2)) {
            another.refuses(Edge.ARGUMENT, x -> x.breach(0, wrong)).refuses(Edge.ARGUMENT, x -> x.breach(-1, wrong))
                    .refuses(Edge.ARGUMENT, x -> x.breach(200, wrong));
        }
        another.refuses(-1, x -> x.breach(0, 0));
    }
}

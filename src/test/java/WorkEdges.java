/** Edges of the promises 1 to 5 and 32: a new object, work, told, history, lead, count. */
final class WorkEdges {
    private static final int LEAST = Integer.MIN_VALUE;
    private static final int MOST = Integer.MAX_VALUE;

    private WorkEdges() {
    }

    static void all() {
        newObject();
        nothingIsShared();
        work();
        fortyWorks();
        told();
        toldWhich();
        historyStarts();
        historyLines();
        history();
        longestHistory();
        lead();
        leadWhich();
        count();
    }

    // ---- 1: a new object

    private static void newObject() {
        Edge nothing = Edge.of(1, "Nothing of all this");
        for (int i = 0; i <= 4; i++) {
            int what = i;
            nothing.due(0, x -> x.count(what));
        }
        nothing.due(0, x -> x.breaches()).due(-1, x -> x.breach(0, 0));
        for (int i = 0; i <= 9; i++) {
            int lender = i;
            nothing.due(-1, x -> x.force(lender, 0)).due(-1, x -> x.force(lender, 10000));
        }
        nothing.refuses(Edge.ELEMENT, x -> x.told(0, 0)).refuses(Edge.ELEMENT, x -> x.history(0, 0, 0))
                .refuses(Edge.ELEMENT, x -> x.lead(0, 0)).refuses(Edge.ELEMENT, x -> x.barred(0, 0, 0))
                .refuses(Edge.ELEMENT, x -> x.pack(0, 0)).refuses(Edge.ELEMENT, x -> x.hang(0, 0))
                .refuses(Edge.ELEMENT, x -> x.down(0)).refuses(Edge.ELEMENT, x -> x.tour(0))
                .refuses(Edge.ELEMENT, x -> x.air(0, 0, 0)).refuses(Edge.ELEMENT, x -> x.wall(0, 0))
                .refuses(Edge.ELEMENT, x -> x.unknown(0)).refuses(Edge.ELEMENT, x -> x.step(0, 0))
                .refuses(Edge.ELEMENT, x -> x.hanging(0, 0, 0)).refuses(Edge.ELEMENT, x -> x.send(0, 0, 1))
                .refuses(Edge.ELEMENT, x -> x.unpack(0)).refuses(Edge.ELEMENT, x -> x.box(0, 0))
                .refuses(Edge.INDEX, x -> x.row(0, 0, 0)).refuses(Edge.INDEX, x -> x.put(0, 0, 0, 0))
                .refuses(Edge.INDEX, x -> x.tear(0, 0));
        Edge.of(1, "HOUR 0").due(0, x -> x.count(5)).due(0, x -> x.wait(0)).due(1, x -> x.wait(1));
        Edge.of(1, "HOUR is 0 at first").due(0, x -> x.count(5));
        Edge.of(1, "an empty TAPE").due(0, x -> x.count(6)).refuses(Edge.ARGUMENT, x -> x.loan(1, 0, 0))
                .due(20, x -> x.feed(0, 0, 0, 0, 0));
        Edge.of(1, "an empty TAPE").due(0, x -> x.loan(0, 0, 0));
    }

    private static void nothingIsShared() {
        TravellingPictures other = new TravellingPictures();
        other.work(0, 1, 1, 0, 0);
        other.room(0, 1, 0, 0, 0);
        other.sheet();
        other.loan(0, 0, 0);
        other.crate(1, 1);
        other.gain(0, 0, 1);
        other.wait(1);
        other.feed(0, 0, 0, 0, 0);
        Edge alone = Edge.of(1, "Nothing of all this");
        for (int i = 0; i <= 6; i++) {
            int what = i;
            alone.due(0, x -> x.count(what));
        }
        alone.due(-1, x -> x.force(0, 0)).call(x -> x.work(0, 1, 1, 0, 0)).due(0, x -> x.tour(0)).loan("light 5;", 0, 0)
                .call(x -> x.gain(0, 5, 1)).call(x -> other.gain(0, 6, 0)).due(1, x -> x.tour(0));
    }

    // ---- 2: work

    private static void work() {
        Edge numbers = Edge.of(2, "A WORK (HOME): its number");
        numbers.due(0, x -> x.work(0, 1, 1, 0, 0)).due(1, x -> x.work(9, 500, 500, 10000, 9))
                .refuses(Edge.ARGUMENT, x -> x.work(10, 1, 1, 0, 0)).due(2, x -> x.work(5, 5, 5, 5, 5))
                .due(0, x -> x.told(2, 5)).due(0, x -> x.told(2, 6)).due(0, x -> x.told(2, 7)).due(3, x -> x.count(0));

        Edge lenders = Edge.of(2, "LENDERS 0 to 9.");
        lenders.due(0, x -> x.work(0, 1, 1, 0, 0)).due(1, x -> x.work(9, 1, 1, 0, 0))
                .due(0, x -> x.told(0, 0)).due(9, x -> x.told(1, 0));
        for (int wrong : Edge.outside(0, 9)) {
            lenders.refuses(Edge.ARGUMENT, x -> x.work(wrong, 1, 1, 0, 0));
        }

        Edge sizes = Edge.of(2, "WIDTH and HEIGHT (1 to 500)");
        sizes.due(0, x -> x.work(0, 1, 500, 0, 0)).due(1, x -> x.work(0, 500, 1, 0, 0))
                .due(1, x -> x.told(0, 1)).due(500, x -> x.told(0, 2)).due(500, x -> x.told(1, 1)).due(1, x -> x.told(1, 2));
        for (int wrong : Edge.outside(1, 500)) {
            sizes.refuses(Edge.ARGUMENT, x -> x.work(0, wrong, 1, 0, 0))
                    .refuses(Edge.ARGUMENT, x -> x.work(0, 1, wrong, 0, 0));
        }

        Edge worth = Edge.of(2, "WORTH (0 to 10,000)");
        worth.due(0, x -> x.work(0, 1, 1, 0, 0)).due(1, x -> x.work(0, 1, 1, 10000, 0))
                .due(0, x -> x.told(0, 3)).due(10000, x -> x.told(1, 3));
        for (int wrong : Edge.outside(0, 10000)) {
            worth.refuses(Edge.ARGUMENT, x -> x.work(0, 1, 1, wrong, 0));
        }

        Edge chapter = Edge.of(2, "CHAPTER (0: none, 1 to 9)");
        chapter.due(0, x -> x.work(0, 1, 1, 0, 0)).due(1, x -> x.work(0, 1, 1, 0, 1)).due(2, x -> x.work(0, 1, 1, 0, 9))
                .due(0, x -> x.told(0, 4)).due(1, x -> x.told(1, 4)).due(9, x -> x.told(2, 4));
        for (int wrong : Edge.outside(0, 9)) {
            chapter.refuses(Edge.ARGUMENT, x -> x.work(0, 1, 1, 0, wrong));
        }
        Edge.of(2, "IllegalArgumentException: one of these is none such.")
                .refuses(Edge.ARGUMENT, x -> x.work(LEAST, LEAST, LEAST, LEAST, LEAST))
                .refuses(Edge.ARGUMENT, x -> x.work(MOST, MOST, MOST, MOST, MOST)).due(0, x -> x.count(0));
    }

    private static void fortyWorks() {
        Edge full = Edge.of(2, "-1: there are 40.");
        full.times(39, x -> x.work(0, 1, 1, 0, 0)).due(39, x -> x.count(0)).due(39, x -> x.work(9, 2, 3, 4, 5))
                .refuses(-1, x -> x.work(0, 1, 1, 0, 0)).due(40, x -> x.count(0)).due(2, x -> x.told(39, 1))
                .refuses(-1, x -> x.work(0, 1, 1, 0, 0));
        Edge.of(2, "WORKS, numbered from 0 on, 40 at most").times(40, x -> x.work(0, 1, 1, 0, 0))
                .refuses(Edge.ELEMENT, x -> x.told(40, 0)).due(0, x -> x.told(0, 0)).due(0, x -> x.told(39, 0));
        Edge.of(2, "IllegalArgumentException: one of these is none such.").times(40, x -> x.work(0, 1, 1, 0, 0))
                .refuses(Edge.ARGUMENT, x -> x.work(10, 1, 1, 0, 0)).refuses(Edge.ARGUMENT, x -> x.work(0, 1, 1, 0, -1));
    }

    // ---- 3: told

    private static void told() {
        Edge each = Edge.of(3, "Of a WORK: 0 LENDER, 1 WIDTH, 2 HEIGHT, 3 WORTH, 4 CHAPTER, 5 PLACE, 6 which CITY, CRATE, ROOM, "
                + "7 LIGHT, 8 lines of its HISTORY.");
        each.call(x -> x.work(1, 1, 1, 1, 1)).call(x -> x.work(7, 11, 12, 13, 4));
        int[] due = {7, 11, 12, 13, 4, 0, 0, 0, 1};
        for (int i = 0; i < due.length; i++) {
            int what = i;
            each.due(due[what], x -> x.told(1, what));
        }
        Edge another = Edge.of(3, "IllegalArgumentException: another what.").call(x -> x.work(0, 1, 1, 0, 0));
        for (int wrong : Edge.outside(0, 8)) {
            another.refuses(Edge.ARGUMENT, x -> x.told(0, wrong));
        }
        Edge noSuch = Edge.of(3, "NoSuchElementException: no such WORK (so below)").call(x -> x.work(0, 1, 1, 0, 0))
                .call(x -> x.work(0, 1, 1, 0, 0));
        for (int wrong : Edge.outside(0, 1)) {
            noSuch.refuses(Edge.ELEMENT, x -> x.told(wrong, 0)).refuses(Edge.ELEMENT, x -> x.told(wrong, 9))
                    .refuses(Edge.ELEMENT, x -> x.told(wrong, -1));
        }
    }

    private static void toldWhich() {
        Edge place = Edge.of(3, "A WORK is at one PLACE: 0 HOME (at first), 1 STORE of a CITY, 2 CRATE, 3 WALL of a ROOM.");
        place.times(20, x -> x.crate(1, 1)).times(20, x -> x.room(4, 1, 1000, 0, 24)).call(x -> x.work(0, 1, 1, 0, 0))
                .due(0, x -> x.told(0, 5)).due(0, x -> x.told(0, 6))
                .call(x -> x.pack(0, 19)).due(2, x -> x.told(0, 5)).due(19, x -> x.told(0, 6))
                .call(x -> x.send(19, 4, 1)).due(2, x -> x.told(0, 5)).call(x -> x.wait(1)).due(2, x -> x.told(0, 5))
                .call(x -> x.unpack(19)).due(1, x -> x.told(0, 5)).due(4, x -> x.told(0, 6))
                .call(x -> x.hang(0, 19)).due(3, x -> x.told(0, 5)).due(19, x -> x.told(0, 6))
                .call(x -> x.wait(1)).due(1000, x -> x.told(0, 7))
                .call(x -> x.down(0)).due(1, x -> x.told(0, 5)).due(4, x -> x.told(0, 6)).due(1000, x -> x.told(0, 7))
                .due(5, x -> x.told(0, 8));
    }

    // ---- 4: history

    private static void historyStarts() {
        Edge.of(4, "a line for HOME at HOUR 0 (when it is made: that HOUR)").call(x -> x.work(0, 1, 1, 0, 0))
                .call(x -> x.wait(7)).call(x -> x.work(0, 1, 1, 0, 0))
                .due(1, x -> x.told(0, 8)).due(0, x -> x.history(0, 0, 0)).due(0, x -> x.history(0, 0, 1))
                .due(0, x -> x.history(0, 0, 2))
                .due(1, x -> x.told(1, 8)).due(7, x -> x.history(1, 0, 0)).due(0, x -> x.history(1, 0, 1))
                .due(0, x -> x.history(1, 0, 2));
    }

    private static void historyLines() {
        Edge lines = Edge.of(4, "one for each change of its PLACE: the HOUR, the PLACE, which CITY, CRATE or ROOM (0 of HOME).");
        lines.call(x -> x.work(0, 10, 10, 0, 0)).call(x -> x.crate(9, 9)).call(x -> x.crate(10, 10))
                .refuses(-4, x -> x.pack(0, 0)).refuses(-1, x -> x.down(0)).refuses(-1, x -> x.unpack(1))
                .call(x -> x.wait(2)).call(x -> x.pack(0, 1)).due(2, x -> x.told(0, 8))
                .call(x -> x.send(1, 3, 5)).due(2, x -> x.told(0, 8)).call(x -> x.wait(5)).due(2, x -> x.told(0, 8))
                .call(x -> x.unpack(1)).due(3, x -> x.told(0, 8))
                .call(x -> x.room(3, 9, 0, 0, 0)).call(x -> x.room(3, 10, 0, 0, 0)).refuses(-3, x -> x.hang(0, 0))
                .call(x -> x.hang(0, 1)).call(x -> x.wait(1)).call(x -> x.down(0)).due(5, x -> x.told(0, 8));
        int[][] due = {{0, 0, 0}, {2, 2, 1}, {7, 1, 3}, {7, 3, 1}, {8, 1, 3}};
        for (int i = 0; i < 3 * due.length; i++) {
            int k = i / 3;
            int what = i % 3;
            lines.due(due[k][what], x -> x.history(0, k, what));
        }
    }

    private static void history() {
        Edge lines = Edge.of(4, "NoSuchElementException: also no such line").stored(2, 0).due(3, x -> x.told(0, 8))
                .due(2, x -> x.history(0, 2, 2));
        for (int wrong : Edge.outside(0, 2)) {
            lines.refuses(Edge.ELEMENT, x -> x.history(0, wrong, 0)).refuses(Edge.ELEMENT, x -> x.history(0, wrong, 3));
        }
        Edge noSuch = Edge.of(4, "NoSuchElementException: no such WORK (so below)").stored(2, 0)
                .due(0, x -> x.history(0, 0, 0));
        for (int wrong : Edge.outside(0, 0)) {
            noSuch.refuses(Edge.ELEMENT, x -> x.history(wrong, 0, 0)).refuses(Edge.ELEMENT, x -> x.history(wrong, 9, -1));
        }
        Edge what = Edge.of(4, "IllegalArgumentException: another what.").stored(2, 0);
        for (int wrong : Edge.outside(0, 2)) {
            what.refuses(Edge.ARGUMENT, x -> x.history(0, 0, wrong)).refuses(Edge.ARGUMENT, x -> x.history(0, 2, wrong));
        }
        Edge.of(4, "Of line k of a HISTORY: 0 the HOUR, 1 the PLACE, 2 which.").call(x -> x.wait(30)).stored(4, 0)
                .due(30, x -> x.history(0, 1, 0)).due(2, x -> x.history(0, 1, 1)).due(0, x -> x.history(0, 1, 2))
                .due(31, x -> x.history(0, 2, 0)).due(1, x -> x.history(0, 2, 1)).due(4, x -> x.history(0, 2, 2));
    }

    /** No limit is told for lines: all that 512 calls can bring are kept. */
    private static void longestHistory() {
        Edge longest = Edge.of(4, "An object is used for at most 512 calls after it has been made");
        longest.call(x -> x.work(0, 1, 1, 0, 0)).call(x -> x.room(0, 1, 0, 0, 0)).call(x -> x.crate(1, 1))
                .call(x -> x.pack(0, 0)).call(x -> x.send(0, 0, 1)).call(x -> x.wait(1)).call(x -> x.unpack(0));
        for (int i = 0; i < 250; i++) {
            longest.due(1, x -> x.hang(0, 0)).due(0, x -> x.down(0));
        }
        longest.due(1, x -> x.hang(0, 0)).due(504, x -> x.told(0, 8)).due(3, x -> x.history(0, 503, 1))
                .due(1, x -> x.history(0, 502, 1)).due(3, x -> x.lead(0, 1));
    }

    // ---- 5: lead

    private static void lead() {
        Edge last = Edge.of(5, "as the last line of the HISTORY that is not later tells");
        last.call(x -> x.wait(5)).stored(2, 0).call(x -> x.room(2, 10, 0, 0, 0)).call(x -> x.wait(3)).call(x -> x.hang(0, 0))
                .due(2, x -> x.lead(0, 5)).due(9, x -> x.lead(0, 6)).due(9, x -> x.lead(0, 8)).due(3, x -> x.lead(0, 9))
                .due(3, x -> x.lead(0, 10)).due(3, x -> x.lead(0, MOST))
                .call(x -> x.down(0)).due(9, x -> x.lead(0, 9)).due(9, x -> x.lead(0, 8));
        Edge yet = Edge.of(5, "NONE: it was not there yet.");
        yet.call(x -> x.work(0, 1, 1, 0, 0)).call(x -> x.wait(5)).call(x -> x.work(0, 1, 1, 0, 0))
                .due(-1, x -> x.lead(0, -1)).due(0, x -> x.lead(0, 0)).due(-1, x -> x.lead(0, LEAST))
                .due(-1, x -> x.lead(1, 4)).due(0, x -> x.lead(1, 5)).due(-1, x -> x.lead(1, 0));
        Edge noSuch = Edge.of(5, "NoSuchElementException: no such WORK (so below)").call(x -> x.work(0, 1, 1, 0, 0))
                .call(x -> x.work(0, 1, 1, 0, 0)).due(0, x -> x.lead(1, 0));
        for (int wrong : Edge.outside(0, 1)) {
            noSuch.refuses(Edge.ELEMENT, x -> x.lead(wrong, 0)).refuses(Edge.ELEMENT, x -> x.lead(wrong, -1));
        }
    }

    private static void leadWhich() {
        Edge.of(5, "At an HOUR: 4 * which + PLACE").times(20, x -> x.crate(1, 1)).times(20, x -> x.room(4, 1, 0, 0, 0))
                .call(x -> x.work(0, 1, 1, 0, 0)).due(0, x -> x.lead(0, 0))
                .call(x -> x.wait(1)).call(x -> x.pack(0, 19)).due(78, x -> x.lead(0, 1))
                .call(x -> x.send(19, 4, 1)).call(x -> x.wait(1)).call(x -> x.unpack(19)).due(17, x -> x.lead(0, 2))
                .call(x -> x.wait(1)).call(x -> x.hang(0, 19)).due(79, x -> x.lead(0, 3))
                .due(0, x -> x.lead(0, 0)).due(78, x -> x.lead(0, 1)).due(17, x -> x.lead(0, 2));
    }

    // ---- 32: count

    private static void count() {
        Edge each = Edge.of(32, "0 WORKS, 1 ROOMS, 2 SHEETS, 3 LOANS, 4 CRATES, 5 HOUR, 6 bytes of the TAPE");
        each.times(7, x -> x.work(0, 1, 1, 0, 0)).times(6, x -> x.room(0, 1, 0, 0, 0)).times(3, x -> x.sheet())
                .times(5, x -> x.loan(0, 0, 0)).times(8, x -> x.crate(1, 1)).call(x -> x.wait(9))
                .call(x -> x.feed(0, 0, 0, 0, 0));
        int[] due = {7, 6, 3, 5, 8, 9, 20};
        for (int i = 0; i < due.length; i++) {
            int what = i;
            each.due(due[what], x -> x.count(what));
        }
        Edge others = Edge.of(32, "NONE for others.").call(x -> x.work(0, 1, 1, 0, 0)).call(x -> x.wait(1));
        for (int other : Edge.outside(0, 6)) {
            others.refuses(-1, x -> x.count(other));
        }
    }
}

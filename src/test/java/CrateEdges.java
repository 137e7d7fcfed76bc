/** Edges of the promises 16 to 20: crate, pack, send, unpack, box. */
final class CrateEdges {
    private static final String NO_CRATE = "NoSuchElementException: also no such CRATE (so below).";

    private CrateEdges() {
    }

    static void all() {
        crate();
        packedAlready();
        elsewhere();
        fourWorks();
        tooSmall();
        firstRefusalOfPack();
        send();
        sendOnItsWay();
        unpack();
        rest();
        whoseRest();
        box();
    }

    // ---- 16: crate

    private static void crate() {
        Edge.of(16, "-1: there are 20.").times(19, x -> x.crate(1, 1)).due(19, x -> x.count(4)).due(19, x -> x.crate(1, 1))
                .refuses(-1, x -> x.crate(1, 1)).due(20, x -> x.count(4)).refuses(-1, x -> x.crate(600, 600));
        Edge.of(16, "CRATES, numbered from 0 on, 20 at most").due(0, x -> x.crate(1, 1)).due(1, x -> x.crate(1, 1))
                .times(18, x -> x.crate(1, 1)).due(0, x -> x.box(0, 0)).due(0, x -> x.box(19, 0))
                .refuses(Edge.ELEMENT, x -> x.box(20, 0));
        Edge sizes = Edge.of(16, "WIDE and HIGH (1 to 600)").due(0, x -> x.crate(1, 600)).due(1, x -> x.crate(600, 1));
        for (int wrong : Edge.outside(1, 600)) {
            sizes.refuses(Edge.ARGUMENT, x -> x.crate(wrong, 1)).refuses(Edge.ARGUMENT, x -> x.crate(1, wrong));
        }
        Edge.of(16, "IllegalArgumentException: WIDE or HIGH.").times(20, x -> x.crate(1, 1))
                .refuses(Edge.ARGUMENT, x -> x.crate(0, 1)).refuses(Edge.ARGUMENT, x -> x.crate(1, 601));
        Edge.of(16, "A CRATE: its number").due(0, x -> x.crate(1, 1)).refuses(Edge.ARGUMENT, x -> x.crate(0, 0))
                .due(1, x -> x.crate(1, 1));
    }

    // ---- 17: pack

    private static void packedAlready() {
        Edge.of(17, "-1 the WORK is neither HOME nor in a STORE").stored(0, 0, 0).call(x -> x.work(0, 10, 10, 0, 0))
                .call(x -> x.crate(10, 10)).call(x -> x.crate(10, 10)).call(x -> x.room(0, 10, 0, 0, 0))
                .due(1, x -> x.pack(2, 1)).refuses(-1, x -> x.pack(2, 1)).refuses(-1, x -> x.pack(2, 2))
                .call(x -> x.hang(0, 0)).refuses(-1, x -> x.pack(0, 0)).due(1, x -> x.pack(1, 0))
                .refuses(-1, x -> x.pack(1, 0))
                .call(x -> x.down(0)).due(2, x -> x.pack(0, 0));
    }

    private static void elsewhere() {
        Edge.of(17, "PACKED: a WORK that is HOME, into one that is nowhere, or a WORK in the STORE of the CRATE's CITY")
                .stored(2, 0, 0).stored(3, 0).call(x -> x.crate(10, 10)).call(x -> x.work(0, 10, 10, 0, 0))
                .refuses(-2, x -> x.pack(0, 2)).refuses(-2, x -> x.pack(0, 1)).refuses(-2, x -> x.pack(2, 0))
                .refuses(-2, x -> x.pack(3, 0)).refuses(-2, x -> x.pack(3, 1))
                .due(1, x -> x.pack(0, 0)).due(1, x -> x.pack(2, 1)).due(1, x -> x.pack(3, 2)).due(2, x -> x.pack(1, 0));
        Edge.of(17, "-2 the CRATE is on its way, or elsewhere").stored(2, 0, 0).stored(3, 0)
                .call(x -> x.work(0, 10, 10, 0, 0))
                .call(x -> x.pack(0, 0)).call(x -> x.send(0, 3, 4)).refuses(-2, x -> x.pack(1, 0))
                .refuses(-2, x -> x.pack(2, 0))
                .refuses(-2, x -> x.pack(3, 0)).call(x -> x.wait(3)).refuses(-2, x -> x.pack(2, 0))
                .refuses(-2, x -> x.pack(1, 0))
                .call(x -> x.wait(1)).refuses(-2, x -> x.pack(1, 0)).refuses(-2, x -> x.pack(3, 0))
                .due(2, x -> x.pack(2, 0));
        Edge.of(17, "A CRATE that was never SENT is nowhere.").call(x -> x.crate(10, 10)).call(x -> x.work(0, 10, 10, 0, 0))
                .call(x -> x.work(0, 10, 10, 0, 0)).call(x -> x.wait(1000)).due(1, x -> x.pack(0, 0))
                .due(-1, x -> x.box(0, 1))
                .call(x -> x.wait(5)).due(2, x -> x.pack(1, 0)).due(-1, x -> x.box(0, 1)).due(0, x -> x.box(0, 3));
        Edge noSuch = Edge.of(17, NO_CRATE).call(x -> x.crate(10, 10))
                .call(x -> x.work(0, 10, 10, 0, 0));
        for (int wrong : Edge.outside(0, 0)) {
            noSuch.refuses(Edge.ELEMENT, x -> x.pack(0, wrong)).refuses(Edge.ELEMENT, x -> x.pack(wrong, wrong));
        }
        noSuch.call(x -> x.pack(0, 0)).call(x -> x.send(0, 0, 1)).refuses(Edge.ELEMENT, x -> x.pack(0, 1));
        Edge noWork = Edge.of(17, "NoSuchElementException: no such WORK (so below)").call(x -> x.crate(10, 10))
                .call(x -> x.work(0, 10, 10, 0, 0));
        for (int wrong : Edge.outside(0, 0)) {
            noWork.refuses(Edge.ELEMENT, x -> x.pack(wrong, 0));
        }
        noWork.call(x -> x.pack(0, 0)).call(x -> x.send(0, 0, 1)).refuses(Edge.ELEMENT, x -> x.pack(1, 0));
    }

    private static void fourWorks() {
        Edge four = Edge.of(17, "-3 it has 4").call(x -> x.crate(10, 10)).times(6, x -> x.work(0, 10, 10, 0, 0));
        four.due(1, x -> x.pack(0, 0)).due(2, x -> x.pack(1, 0)).due(3, x -> x.pack(2, 0)).due(4, x -> x.pack(3, 0))
                .refuses(-3, x -> x.pack(4, 0)).due(4, x -> x.box(0, 0)).due(0, x -> x.told(4, 5));
        Edge.of(17, "for 4 WORKS at most").stored(0, 0, 0, 0, 0).stored(0, 0).due(1, x -> x.pack(0, 0))
                .due(2, x -> x.pack(1, 0))
                .due(3, x -> x.pack(2, 0)).due(4, x -> x.pack(4, 0)).refuses(-3, x -> x.pack(3, 0)).due(4, x -> x.unpack(0))
                .due(1, x -> x.pack(3, 0));
        Edge.of(17, "PACKED: how many WORKS it holds").call(x -> x.crate(1, 1)).call(x -> x.crate(1, 1))
                .times(2, x -> x.work(0, 1, 1, 0, 0))
                .due(1, x -> x.pack(0, 0)).due(1, x -> x.pack(1, 1));
    }

    private static void tooSmall() {
        String sentence = "its WIDTH and HEIGHT (either way round) are WIDE and HIGH or less.";
        Edge way = Edge.of(17, sentence).call(x -> x.work(0, 50, 100, 0, 0));
        int[][] small = {{49, 100}, {50, 99}, {99, 50}, {100, 49}, {99, 99}, {49, 600}, {600, 49}, {1, 1}};
        for (int i = 0; i < small.length; i++) {
            int crate = i;
            way.call(x -> x.crate(small[crate][0], small[crate][1])).refuses(-4, x -> x.pack(0, crate));
        }
        int[][] great = {{50, 100}, {100, 50}, {51, 101}, {100, 100}, {600, 600}, {50, 600}, {600, 50}};
        for (int[] size : great) {
            Edge.of(17, sentence).call(x -> x.work(0, 50, 100, 0, 0)).call(x -> x.crate(size[0], size[1]))
                    .due(1, x -> x.pack(0, 0));
            Edge.of(17, sentence).call(x -> x.work(0, 100, 50, 0, 0)).call(x -> x.crate(size[0], size[1]))
                    .due(1, x -> x.pack(0, 0));
        }
        Edge.of(17, "-4 it is too small.").call(x -> x.work(0, 1, 1, 0, 0)).call(x -> x.work(0, 500, 500, 0, 0))
                .call(x -> x.crate(1, 1)).call(x -> x.crate(500, 500)).call(x -> x.crate(500, 499))
                .call(x -> x.crate(499, 500))
                .due(1, x -> x.pack(0, 0)).refuses(-4, x -> x.pack(1, 0)).refuses(-4, x -> x.pack(1, 2))
                .refuses(-4, x -> x.pack(1, 3))
                .due(1, x -> x.pack(1, 1));
    }

    /** Crate 0 is full, crate 1 is on its way and full, crate 2 is small, crate 3 on its way. */
    private static void firstRefusalOfPack() {
        Edge order = Edge.of(17, "or, the first of these");
        order.call(x -> x.crate(10, 10)).call(x -> x.crate(10, 10)).call(x -> x.crate(5, 5)).call(x -> x.crate(10, 10));
        for (int i = 0; i < 9; i++) {
            int work = i;
            order.call(x -> x.work(0, 10, 10, 0, 0)).call(x -> x.pack(work, work < 4 ? 0 : work < 8 ? 1 : 3));
        }
        order.call(x -> x.send(1, 0, 5)).call(x -> x.send(3, 0, 5)).call(x -> x.work(0, 10, 10, 0, 0))
                .call(x -> x.work(0, 20, 20, 0, 0))
                .refuses(-1, x -> x.pack(8, 0)).refuses(-1, x -> x.pack(8, 1)).refuses(-1, x -> x.pack(8, 2))
                .refuses(-1, x -> x.pack(0, 3))
                .refuses(-2, x -> x.pack(9, 1)).refuses(-2, x -> x.pack(10, 1)).refuses(-2, x -> x.pack(10, 3))
                .refuses(-3, x -> x.pack(9, 0)).refuses(-3, x -> x.pack(10, 0)).refuses(-4, x -> x.pack(10, 2));
    }

    // ---- 18: send

    private static void send() {
        Edge wrong = Edge.of(18, "IllegalArgumentException: no such CITY, or HOURS.").call(x -> x.crate(10, 10))
                .call(x -> x.crate(10, 10)).call(x -> x.work(0, 10, 10, 0, 0)).call(x -> x.pack(0, 0));
        for (int city : Edge.outside(0, 4)) {
            wrong.refuses(Edge.ARGUMENT, x -> x.send(0, city, 1)).refuses(Edge.ARGUMENT, x -> x.send(1, city, 1));
        }
        for (int hours : Edge.outside(1, 100)) {
            wrong.refuses(Edge.ARGUMENT, x -> x.send(0, 0, hours)).refuses(Edge.ARGUMENT, x -> x.send(1, 0, hours));
        }
        Edge noSuch = Edge.of(18, NO_CRATE).times(2, x -> x.crate(10, 10)).call(x -> x.work(0, 10, 10, 0, 0))
                .call(x -> x.pack(0, 1));
        for (int crate : Edge.outside(0, 1)) {
            noSuch.refuses(Edge.ELEMENT, x -> x.send(crate, 0, 1)).refuses(Edge.ELEMENT, x -> x.send(crate, 5, 1))
                    .refuses(Edge.ELEMENT, x -> x.send(crate, 0, 0));
        }
        noSuch.due(1, x -> x.send(1, 0, 1));
        wrong.due(1, x -> x.send(0, 4, 1)).refuses(Edge.ARGUMENT, x -> x.send(0, 5, 1))
                .refuses(Edge.ARGUMENT, x -> x.send(0, 0, 101));
        Edge.of(18, "SENT: the CRATE goes to a CITY, so many HOURS (1 to 100).").call(x -> x.wait(7))
                .call(x -> x.crate(10, 10))
                .call(x -> x.work(0, 10, 10, 0, 0)).call(x -> x.pack(0, 0)).due(107, x -> x.send(0, 4, 100))
                .due(4, x -> x.box(0, 1)).call(x -> x.wait(100)).due(108, x -> x.send(0, 0, 1)).due(0, x -> x.box(0, 1))
                .call(x -> x.wait(1)).due(110, x -> x.send(0, 0, 2)).due(0, x -> x.box(0, 1));
    }

    private static void sendOnItsWay() {
        Edge.of(18, "SENT: the HOUR when it comes; -1: it is on its way, or empty.").call(x -> x.crate(10, 10))
                .refuses(-1, x -> x.send(0, 0, 1)).call(x -> x.work(0, 10, 10, 0, 0)).call(x -> x.pack(0, 0))
                .due(5, x -> x.send(0, 3, 5)).refuses(-1, x -> x.send(0, 3, 5)).refuses(-1, x -> x.send(0, 1, 1))
                .call(x -> x.wait(4)).refuses(-1, x -> x.send(0, 1, 1)).call(x -> x.wait(1)).due(6, x -> x.send(0, 1, 1))
                .call(x -> x.wait(1)).call(x -> x.unpack(0)).refuses(-1, x -> x.send(0, 2, 1)).due(1, x -> x.box(0, 1))
                .call(x -> x.pack(0, 0)).due(16, x -> x.send(0, 2, 10));
        Edge.of(18, "SENT: the HOUR when it comes").call(x -> x.crate(10, 10)).call(x -> x.work(0, 10, 10, 0, 0))
                .call(x -> x.pack(0, 0))
                .until(200000).due(200100, x -> x.send(0, 0, 100)).due(200100, x -> x.box(0, 3)).due(1, x -> x.box(0, 2));
    }

    // ---- 19: unpack

    private static void unpack() {
        Edge.of(19, "-1: it is empty, nowhere yet, or on its way").call(x -> x.crate(10, 10)).refuses(-1, x -> x.unpack(0))
                .times(4, x -> x.work(0, 10, 10, 0, 0)).call(x -> x.pack(0, 0)).refuses(-1, x -> x.unpack(0))
                .call(x -> x.wait(50)).refuses(-1, x -> x.unpack(0)).call(x -> x.pack(1, 0)).call(x -> x.send(0, 2, 3))
                .refuses(-1, x -> x.unpack(0)).call(x -> x.wait(2)).refuses(-1, x -> x.unpack(0)).call(x -> x.wait(1))
                .due(2, x -> x.unpack(0)).refuses(-1, x -> x.unpack(0));
        Edge four = Edge.of(19, "UNPACKED: how many WORKS").call(x -> x.crate(10, 10))
                .times(4, x -> x.work(0, 10, 10, 0, 0));
        for (int i = 0; i < 4; i++) {
            int work = i;
            four.call(x -> x.pack(work, 0));
        }
        four.call(x -> x.send(0, 4, 1)).call(x -> x.wait(1)).due(4, x -> x.unpack(0)).due(0, x -> x.box(0, 0));
        for (int i = 0; i < 4; i++) {
            int work = i;
            four.due(17, x -> x.lead(work, 1)).due(3, x -> x.told(work, 8));
        }
        four.call(x -> x.pack(3, 0)).due(1, x -> x.unpack(0));
        Edge noSuch = Edge.of(19, NO_CRATE).stored(0, 0).call(x -> x.pack(0, 0));
        for (int wrong : Edge.outside(0, 0)) {
            noSuch.refuses(Edge.ELEMENT, x -> x.unpack(wrong));
        }
        noSuch.due(1, x -> x.unpack(0));
        Edge.of(19, "UNPACKED: all its WORKS go to the STORE of its CITY").stored(1, 0, 0).stored(2, 0)
                .call(x -> x.pack(1, 0))
                .due(1, x -> x.unpack(0)).due(1, x -> x.told(0, 6)).due(1, x -> x.told(1, 6)).due(2, x -> x.told(2, 6))
                .due(3, x -> x.told(0, 8)).due(5, x -> x.told(1, 8)).due(3, x -> x.told(2, 8));
    }

    private static Edge sent(String sentence, String text) {
        return Edge.of(19, sentence).loan(text, 0, 0).call(x -> x.crate(10, 10)).call(x -> x.work(0, 10, 10, 0, 0))
                .call(x -> x.pack(0, 0)).call(x -> x.send(0, 1, 2));
    }

    private static void rest() {
        String rested = "-2: it has not rested.";
        sent(rested, "rest 5;").refuses(-1, x -> x.unpack(0)).until(2).refuses(-2, x -> x.unpack(0)).until(6)
                .refuses(-2, x -> x.unpack(0)).until(7).due(1, x -> x.unpack(0));
        sent(rested, "rest 1;").until(1).refuses(-1, x -> x.unpack(0)).until(2).refuses(-2, x -> x.unpack(0)).until(3)
                .due(1, x -> x.unpack(0));
        sent(rested, "rest 0;").until(2).due(1, x -> x.unpack(0));
        sent(rested, "rest 999999;").until(2000).refuses(-2, x -> x.unpack(0));
        sent(rested, "rest 5;").until(7).call(x -> x.send(0, 1, 1)).until(8).refuses(-2, x -> x.unpack(0)).until(12)
                .refuses(-2, x -> x.unpack(0)).until(13).due(1, x -> x.unpack(0));
        sent(rested, "rest 5;").until(7).call(x -> x.unpack(0)).call(x -> x.pack(0, 0)).due(1, x -> x.unpack(0));
        sent(rested, "rest 5;").refuses(-1, x -> x.unpack(0)).until(1).refuses(-1, x -> x.unpack(0));
    }

    private static void whoseRest() {
        String sentence = "it must have come, and then rested as many HOURS as the greatest \"rest\" of the LOANS in force "
                + "(today) of its WORKS asks.";
        sent(sentence, "rest 3; rest 6; rest 4;").until(7).refuses(-2, x -> x.unpack(0)).until(8).due(1, x -> x.unpack(0));
        sent(sentence, "until 9; rest 3;").loan("rest 9;", 1, 0).until(4).refuses(-2, x -> x.unpack(0)).until(5)
                .due(1, x -> x.unpack(0));
        Edge.of(19, sentence).loan("rest 2;", 0, 0).loan("rest 4;", 1, 0).loan("rest 3;", 2, 0).call(x -> x.crate(10, 10))
                .call(x -> x.work(0, 10, 10, 0, 0)).call(x -> x.work(1, 10, 10, 0, 0)).call(x -> x.work(2, 10, 10, 0, 0))
                .call(x -> x.work(3, 10, 10, 0, 0)).call(x -> x.pack(0, 0)).call(x -> x.pack(1, 0)).call(x -> x.pack(2, 0))
                .call(x -> x.pack(3, 0))
                .call(x -> x.send(0, 0, 1)).until(4).refuses(-2, x -> x.unpack(0)).until(5).due(4, x -> x.unpack(0));
        sent(sentence, "rest 999;").call(x -> x.loan(0, 0, 1)).until(23).refuses(-2, x -> x.unpack(0)).until(24)
                .due(1, x -> x.unpack(0));
        sent(sentence, "").loan("rest 999;", 0, 1).until(24).refuses(-2, x -> x.unpack(0));
        sent(sentence, "").loan("rest 999;", 0, 1).until(23).due(1, x -> x.unpack(0));
        Edge.of(19, sentence).call(x -> x.crate(10, 10)).call(x -> x.work(0, 10, 10, 0, 0)).call(x -> x.pack(0, 0))
                .call(x -> x.send(0, 0, 1)).until(1).due(1, x -> x.unpack(0));
    }

    // ---- 20: box

    private static void box() {
        Edge each = Edge.of(20, "Of a CRATE: 0 how many WORKS it holds, 1 its CITY (where it goes; NONE: nowhere), "
                + "2 whether it is on its way (1, 0), 3 the HOUR when it came or comes (0 nowhere).");
        each.call(x -> x.crate(10, 10)).times(4, x -> x.work(0, 10, 10, 0, 0));
        boxIs(each, 0, -1, 0, 0);
        each.call(x -> x.wait(4)).call(x -> x.pack(0, 0)).call(x -> x.pack(1, 0)).call(x -> x.pack(2, 0));
        boxIs(each, 3, -1, 0, 0);
        each.call(x -> x.pack(3, 0)).call(x -> x.send(0, 4, 2));
        boxIs(each, 4, 4, 1, 6);
        each.until(5);
        boxIs(each, 4, 4, 1, 6);
        each.until(6);
        boxIs(each, 4, 4, 0, 6);
        each.until(9).call(x -> x.unpack(0));
        boxIs(each, 0, 4, 0, 6);
        each.call(x -> x.pack(2, 0)).call(x -> x.send(0, 0, 1));
        boxIs(each, 1, 0, 1, 10);
        Edge.of(20, "A CRATE is in a CITY, or on its way to one till an HOUR.").stored(3, 0).due(3, x -> x.box(0, 1))
                .due(0, x -> x.box(0, 2))
                .due(1, x -> x.box(0, 3)).call(x -> x.pack(0, 0)).due(0, x -> x.box(0, 2)).call(x -> x.send(0, 3, 1))
                .due(1, x -> x.box(0, 2))
                .call(x -> x.wait(1)).due(0, x -> x.box(0, 2));
        Edge wrong = Edge.of(20, "IllegalArgumentException: another what.").call(x -> x.crate(1, 1));
        for (int what : Edge.outside(0, 3)) {
            wrong.refuses(Edge.ARGUMENT, x -> x.box(0, what));
        }
        Edge noSuch = Edge.of(20, NO_CRATE).times(2, x -> x.crate(1, 1)).due(-1, x -> x.box(1, 1));
        for (int crate : Edge.outside(0, 1)) {
            noSuch.refuses(Edge.ELEMENT, x -> x.box(crate, 0)).refuses(Edge.ELEMENT, x -> x.box(crate, 4));
        }
    }

    private static void boxIs(Edge edge, int works, int city, int onItsWay, int hour) {
        edge.due(works, x -> x.box(0, 0)).due(city, x -> x.box(0, 1)).due(onItsWay, x -> x.box(0, 2))
                .due(hour, x -> x.box(0, 3));
    }
}

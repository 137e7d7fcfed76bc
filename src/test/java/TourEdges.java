/** Edges of the promises 30 and 31: gain, tour. */
final class TourEdges {
    private TourEdges() {
    }

    static void all() {
        gain();
        gainAtFirst();
        barredCities();
        light();
        best();
        nothing();
    }

    // ---- 30: gain

    private static void gain() {
        Edge wrong = Edge.of(30, "IllegalArgumentException: no such CITY, USE, GAIN.").call(x -> x.work(0, 1, 1, 0, 0))
                .loan("light 100;", 0, 0)
                .due(1, x -> x.gain(0, 60, 5)).due(1, x -> x.gain(4, 60, 6));
        for (int city : Edge.outside(0, 4)) {
            wrong.refuses(Edge.ARGUMENT, x -> x.gain(city, 0, 7));
        }
        for (int use : Edge.outside(0, 1000000)) {
            wrong.refuses(Edge.ARGUMENT, x -> x.gain(0, use, 7));
        }
        for (int gain : Edge.outside(0, 10000)) {
            wrong.refuses(Edge.ARGUMENT, x -> x.gain(0, 0, gain));
        }
        wrong.due(16, x -> x.tour(0)).due(1, x -> x.gain(0, 60, 7)).due(1, x -> x.tour(0));
        Edge.of(30, "each with a USE of light told ahead (0 to 1,000,000 for each CITY) and a GAIN (0 to 10,000)")
                .call(x -> x.work(0, 1, 1, 0, 0))
                .due(1, x -> x.gain(0, 0, 0)).due(1, x -> x.gain(1, 1000000, 10000)).due(1, x -> x.gain(2, 0, 10000))
                .due(1, x -> x.gain(3, 1000000, 0))
                .due(6, x -> x.tour(0)).loan("light 999999;", 0, 0).due(4, x -> x.tour(0));
        Edge.of(30, "USE and GAIN of a CITY").call(x -> x.work(0, 1, 1, 0, 0)).loan("light 10;", 0, 0)
                .due(1, x -> x.gain(1, 11, 5)).due(0, x -> x.tour(0))
                .due(1, x -> x.gain(1, 10, 5)).due(2, x -> x.tour(0)).due(1, x -> x.gain(1, 10, 0)).due(0, x -> x.tour(0));
    }

    private static void gainAtFirst() {
        Edge.of(30, "(0 at first): 1.").call(x -> x.work(0, 1, 1, 0, 0)).due(0, x -> x.tour(0)).loan("light 0;", 0, 0)
                .due(1, x -> x.gain(4, 0, 1))
                .due(16, x -> x.tour(0));
    }

    // ---- 31: tour

    private static Edge gains(String sentence, int... useAndGain) {
        Edge edge = Edge.of(31, sentence).call(x -> x.work(0, 10, 10, 0, 0));
        for (int i = 0; i < 5; i++) {
            int city = i;
            edge.call(x -> x.gain(city, useAndGain[2 * city], useAndGain[2 * city + 1]));
        }
        return edge;
    }

    private static void barredCities() {
        for (int i = 0; i < 5; i++) {
            int city = i;
            Edge.of(31, "TOUR of a WORK: sets of CITIES (bits)").call(x -> x.work(0, 1, 1, 0, 0))
                    .call(x -> x.gain(city, 0, 1))
                    .due(1 << city, x -> x.tour(0));
        }
        gains("those whose CITIES none is barred by \"cities\" today", 0, 1, 0, 2, 0, 4, 0, 8, 0, 16).due(31, x -> x.tour(0))
                .loan("cities 0 4;", 0, 0).due(17, x -> x.tour(0)).loan("cities 0 2 3; until 0; cities 3 0 1;", 0, 0)
                .due(9, x -> x.tour(0))
                .loan("cities 0; cities 1;", 0, 0).due(0, x -> x.tour(0)).loan("cities 0 1 2 3 4;", 0, 0)
                .due(31, x -> x.tour(0))
                .loan("cities 3;", 0, 1).loan("cities 2;", 1, 0).until(23).due(31, x -> x.tour(0)).until(24)
                .due(8, x -> x.tour(0))
                .loan("until 0;", 0, 1).due(31, x -> x.tour(0)).loan("rest 1; damp 1-0; apart 0;", 0, 1)
                .due(31, x -> x.tour(0));
    }

    private static void light() {
        String sentence = "whose USES and the WORK's LIGHT together are not above the least \"light\" of the LOAN in force "
                + "(any, without one).";
        gains(sentence, 30, 3, 20, 2, 10, 1, 0, 0, 0, 0).loan("light 60;", 0, 0).due(7, x -> x.tour(0))
                .loan("light 59;", 0, 0).due(3, x -> x.tour(0))
                .loan("light 50;", 0, 0).due(3, x -> x.tour(0)).loan("light 49;", 0, 0).due(5, x -> x.tour(0))
                .loan("light 90; light 59; light 70;", 0, 0).due(3, x -> x.tour(0)).loan("light 9;", 0, 0)
                .due(0, x -> x.tour(0))
                .loan("light 10;", 0, 0).due(4, x -> x.tour(0)).loan("light 60;", 0, 1).until(24).due(7, x -> x.tour(0));
        gains(sentence, 1000000, 1, 1000000, 1, 1000000, 1, 1000000, 1, 1000000, 1).due(31, x -> x.tour(0))
                .loan("light 999999;", 1, 0)
                .due(31, x -> x.tour(0)).loan("rest 0;", 0, 0).due(31, x -> x.tour(0)).loan("light 999999;", 0, 0)
                .due(0, x -> x.tour(0));
        gains(sentence, 30, 3, 20, 2, 10, 1, 0, 0, 0, 0).delivers(0, 0).call(x -> x.room(0, 10, 10, 0, 24))
                .call(x -> x.hang(0, 0)).call(x -> x.wait(1))
                .loan("light 60;", 0, 0).due(3, x -> x.tour(0)).loan("light 59;", 0, 0).due(5, x -> x.tour(0))
                .loan("light 70;", 0, 0).due(7, x -> x.tour(0))
                .loan("light 10;", 0, 0).due(0, x -> x.tour(0)).call(x -> x.gain(4, 0, 1)).due(16, x -> x.tour(0))
                .loan("light 9;", 0, 0).due(0, x -> x.tour(0));
        Edge wrong = gains("NoSuchElementException: no such WORK (so below)", 0, 1, 0, 1, 0, 1, 0, 1, 0, 1)
                .due(31, x -> x.tour(0));
        for (int work : Edge.outside(0, 0)) {
            wrong.refuses(Edge.ELEMENT, x -> x.tour(work));
        }
    }

    private static void best() {
        String sentence = "BEST: the greatest GAIN together; of these the fewest CITIES; of these the least as a number.";
        gains(sentence, 10, 5, 10, 5, 20, 10, 20, 10, 20, 9).loan("light 20;", 0, 0).due(4, x -> x.tour(0))
                .loan("light 10;", 0, 0).due(1, x -> x.tour(0))
                .loan("light 30;", 0, 0).due(5, x -> x.tour(0)).loan("light 40;", 0, 0).due(12, x -> x.tour(0));
        gains(sentence, 10, 5, 10, 4, 19, 8, 20, 9, 20, 10).loan("light 20;", 0, 0).due(16, x -> x.tour(0));
        gains(sentence, 10, 5, 10, 5, 20, 9, 20, 9, 20, 9).loan("light 20;", 0, 0).due(3, x -> x.tour(0));
        gains(sentence, 0, 0, 0, 0, 0, 0, 0, 0, 0, 1).due(16, x -> x.tour(0));
        gains(sentence, 0, 10000, 0, 10000, 0, 10000, 0, 10000, 0, 10000).due(31, x -> x.tour(0));
        gains(sentence, 20, 5, 20, 5, 20, 5, 20, 5, 20, 5).loan("light 40;", 0, 0).due(3, x -> x.tour(0))
                .loan("cities 2 3 4; light 40;", 0, 0)
                .due(12, x -> x.tour(0)).loan("cities 1 2 4; light 40;", 0, 0).due(6, x -> x.tour(0));
    }

    private static void nothing() {
        String sentence = "TOUR's BEST (bits; 0 if nothing may be, or nothing is gained).";
        gains(sentence, 0, 0, 0, 0, 0, 0, 0, 0, 0, 0).due(0, x -> x.tour(0));
        gains(sentence, 5, 0, 5, 0, 5, 0, 5, 0, 5, 0).due(0, x -> x.tour(0)).loan("light 9;", 0, 0).due(0, x -> x.tour(0));
        gains(sentence, 5, 1, 5, 1, 5, 1, 5, 1, 5, 1).loan("light 4;", 0, 0).due(0, x -> x.tour(0)).loan("light 5;", 0, 0)
                .due(1, x -> x.tour(0));
        gains(sentence, 0, 1, 0, 0, 0, 0, 0, 0, 0, 0).loan("cities 1;", 0, 0).due(0, x -> x.tour(0)).loan("cities 0;", 0, 0)
                .due(1, x -> x.tour(0));
    }
}

/** Edges of the promises 6 to 11 and 25: room, air, sheet, row, put, tear, unknown; and of AIR. */
final class RoomEdges {
    private static final int NAN = 0x7fc00000;

    private RoomEdges() {
    }

    static void all() {
        room();
        twentyRooms();
        openHours();
        air();
        airFromNowOn();
        sheets();
        row();
        rowsAreZero();
        put();
        tear();
        cut();
        unknownAir();
        worstAir();
        unknown();
    }

    private static int bits(float number) {
        return Float.floatToRawIntBits(number);
    }

    // ---- 6: room

    private static void room() {
        Edge city = Edge.of(6, "CITIES 0 to 4.");
        city.due(0, x -> x.room(0, 1, 0, 0, 0)).due(1, x -> x.room(4, 1, 0, 0, 0));
        for (int wrong : Edge.outside(0, 4)) {
            city.refuses(Edge.ARGUMENT, x -> x.room(wrong, 1, 0, 0, 0));
        }
        Edge length = Edge.of(6, "LENGTH (of its wall, 1 to 5,000)");
        length.due(0, x -> x.room(0, 1, 0, 0, 0)).due(1, x -> x.room(0, 5000, 0, 0, 0));
        for (int wrong : Edge.outside(1, 5000)) {
            length.refuses(Edge.ARGUMENT, x -> x.room(0, wrong, 0, 0, 0));
        }
        Edge lux = Edge.of(6, "LUX (0 to 1,000)");
        lux.due(0, x -> x.room(0, 1, 0, 0, 0)).due(1, x -> x.room(0, 1, 1000, 0, 0));
        for (int wrong : Edge.outside(0, 1000)) {
            lux.refuses(Edge.ARGUMENT, x -> x.room(0, 1, wrong, 0, 0));
        }
        Edge hours = Edge.of(6, "(0 to 24, OPEN not above SHUT)");
        hours.due(0, x -> x.room(0, 1, 0, 0, 24)).due(1, x -> x.room(0, 1, 0, 0, 0)).due(2, x -> x.room(0, 1, 0, 24, 24))
                .due(3, x -> x.room(0, 1, 0, 12, 12)).due(4, x -> x.room(0, 1, 0, 11, 12))
                .refuses(Edge.ARGUMENT, x -> x.room(0, 1, 0, 13, 12)).refuses(Edge.ARGUMENT, x -> x.room(0, 1, 0, 24, 0))
                .refuses(Edge.ARGUMENT, x -> x.room(0, 1, 0, 1, 0)).refuses(Edge.ARGUMENT, x -> x.room(0, 1, 0, -1, -1))
                .refuses(Edge.ARGUMENT, x -> x.room(0, 1, 0, 25, 25)).refuses(Edge.ARGUMENT, x -> x.room(0, 1, 0, 24, 25));
        for (int wrong : Edge.outside(0, 24)) {
            hours.refuses(Edge.ARGUMENT, x -> x.room(0, 1, 0, wrong, 24))
                    .refuses(Edge.ARGUMENT, x -> x.room(0, 1, 0, 0, wrong));
        }
    }

    private static void twentyRooms() {
        Edge.of(6, "-1: there are 20.").times(19, x -> x.room(0, 1, 0, 0, 0)).due(19, x -> x.room(0, 1, 0, 0, 0))
                .refuses(-1, x -> x.room(0, 1, 0, 0, 0)).due(20, x -> x.count(1)).refuses(-1, x -> x.room(0, 1, 0, 0, 0));
        Edge.of(6, "ROOMS, numbered from 0 on, 20 at most").times(20, x -> x.room(0, 1, 0, 0, 0))
                .due(0, x -> x.unknown(0)).due(0, x -> x.unknown(19)).refuses(Edge.ELEMENT, x -> x.unknown(20));
        Edge.of(6, "IllegalArgumentException: one of these is none such.").times(20, x -> x.room(0, 1, 0, 0, 0))
                .refuses(Edge.ARGUMENT, x -> x.room(5, 1, 0, 0, 0)).refuses(Edge.ARGUMENT, x -> x.room(0, 1, 0, 2, 1));
        Edge.of(6, "A ROOM: its number").due(0, x -> x.room(0, 1, 0, 0, 0))
                .refuses(Edge.ARGUMENT, x -> x.room(0, 0, 0, 0, 0))
                .due(1, x -> x.room(0, 1, 0, 0, 0)).due(2, x -> x.count(1));
    }

    /** Work 0 hangs in a room of this light from hour 1 on. */
    private static Edge lit(String sentence, int lux, int open, int shut) {
        return Edge.of(6, sentence).stored(0, 0).call(x -> x.room(0, 10, lux, open, shut)).call(x -> x.hang(0, 0));
    }

    private static void openHours() {
        String sentence = "in each hour of the day from OPEN on and ahead of SHUT";
        lit(sentence, 7, 9, 17).until(9).due(0, x -> x.told(0, 7)).until(10).due(7, x -> x.told(0, 7))
                .until(17).due(56, x -> x.told(0, 7)).until(18).due(56, x -> x.told(0, 7))
                .until(33).due(56, x -> x.told(0, 7)).until(34).due(63, x -> x.told(0, 7));
        lit(sentence, 7, 23, 24).until(23).due(0, x -> x.told(0, 7)).until(24).due(7, x -> x.told(0, 7))
                .until(25).due(7, x -> x.told(0, 7)).until(48).due(14, x -> x.told(0, 7));
        lit(sentence, 7, 0, 1).until(24).due(0, x -> x.told(0, 7)).until(25).due(7, x -> x.told(0, 7))
                .until(48).due(7, x -> x.told(0, 7)).until(49).due(14, x -> x.told(0, 7));
        lit(sentence, 1000, 0, 24).until(2).due(1000, x -> x.told(0, 7)).until(49).due(48000, x -> x.told(0, 7));
        lit(sentence, 0, 0, 24).until(49).due(0, x -> x.told(0, 7));
        lit("0 else", 1000, 0, 0).until(49).due(0, x -> x.told(0, 7));
        lit("0 else", 1000, 9, 9).until(49).due(0, x -> x.told(0, 7));
        lit("0 else", 1000, 24, 24).until(49).due(0, x -> x.told(0, 7));
    }

    // ---- 7: air

    private static void air() {
        Edge told = Edge.of(7, "IndexOutOfBoundsException: no such SHEET or ROW.").call(x -> x.room(0, 1, 0, 0, 0))
                .refuses(Edge.INDEX, x -> x.air(0, 0, 0)).times(4, x -> x.sheet())
                .due(1, x -> x.air(0, 0, 0)).due(1, x -> x.air(0, 3, 9)).due(1, x -> x.air(0, 3, 0))
                .due(1, x -> x.air(0, 0, 9));
        for (int wrong : Edge.outside(0, 3)) {
            told.refuses(Edge.INDEX, x -> x.air(0, wrong, 0));
        }
        for (int wrong : Edge.outside(0, 9)) {
            told.refuses(Edge.INDEX, x -> x.air(0, 0, wrong));
        }
        Edge rooms = Edge.of(7, "NoSuchElementException: no such ROOM (so below)").call(x -> x.room(0, 1, 0, 0, 0))
                .call(x -> x.room(0, 1, 0, 0, 0)).call(x -> x.sheet()).due(1, x -> x.air(1, 0, 0));
        for (int wrong : Edge.outside(0, 1)) {
            rooms.refuses(Edge.ELEMENT, x -> x.air(wrong, 0, 0)).refuses(Edge.ELEMENT, x -> x.air(wrong, 1, 0))
                    .refuses(Edge.ELEMENT, x -> x.air(wrong, 0, 10));
        }
    }

    /** Work 0, whose loan has this text, hangs in room 0 from hour 1 on; there is a sheet, and no row. */
    private static Edge aired(int promise, String sentence, String text) {
        return Edge.of(promise, sentence).loan(text, 0, 0).stored(0, 0).call(x -> x.room(0, 10, 0, 0, 0))
                .call(x -> x.hang(0, 0)).call(x -> x.sheet());
    }

    private static void airFromNowOn() {
        aired(7, "AIR of a ROOM is a ROW from now on: 1.", "damp 0-0;").call(x -> x.row(0, 0, 24)).call(x -> x.row(0, 9, 24))
                .call(x -> x.put(0, 9, 1, bits(1f))).call(x -> x.put(0, 9, 2, bits(1f)))
                .due(1, x -> x.air(0, 0, 9)).until(2).due(1, x -> x.breaches())
                .due(1, x -> x.air(0, 0, 0)).until(3).due(1, x -> x.breaches()).due(0, x -> x.unknown(0))
                .refuses(Edge.INDEX, x -> x.air(0, 1, 9)).refuses(Edge.INDEX, x -> x.air(0, 0, 10))
                .refuses(Edge.ELEMENT, x -> x.air(1, 0, 9));
        aired(7, "AIR of a ROOM: a ROW of a SHEET (none at first).", "damp 0-0;").call(x -> x.row(0, 0, 24)).until(3)
                .due(2, x -> x.unknown(0)).due(1, x -> x.air(0, 0, 0)).until(4).due(2, x -> x.unknown(0));
        aired(7, "AIR of a ROOM is a ROW from now on: 1.", "damp 0-0;").times(3, x -> x.sheet()).call(x -> x.row(3, 0, 24))
                .due(1, x -> x.air(0, 2, 0)).until(2).due(1, x -> x.unknown(0))
                .due(1, x -> x.air(0, 3, 0)).until(3).due(1, x -> x.unknown(0));
    }

    // ---- 8 to 11: sheets and their rows

    private static void sheets() {
        Edge.of(8, "-1: there are 4.").due(0, x -> x.sheet()).due(1, x -> x.sheet()).due(2, x -> x.sheet())
                .due(3, x -> x.count(2)).due(3, x -> x.sheet()).refuses(-1, x -> x.sheet()).due(4, x -> x.count(2))
                .refuses(-1, x -> x.sheet());
        Edge missing = Edge.of(8, "SHEETS 0 to 3 each have ROWS 0 to 9 of floats, missing at first.")
                .times(4, x -> x.sheet());
        for (int i = 0; i < 40; i++) {
            int sheet = i / 10;
            int k = i % 10;
            missing.refuses(0, x -> x.tear(sheet, k));
        }
        missing.due(5, x -> x.row(3, 9, 5)).due(0, x -> x.tear(3, 8)).due(0, x -> x.tear(2, 9)).due(1, x -> x.tear(3, 9));
        Edge.of(8, "A SHEET: its number").due(0, x -> x.sheet()).refuses(Edge.INDEX, x -> x.row(1, 0, 0))
                .due(1, x -> x.sheet())
                .due(0, x -> x.row(1, 0, 0));
    }

    private static void row() {
        Edge n = Edge.of(9, "-1, doing nothing, if n is below 0 or above 24.").call(x -> x.sheet())
                .due(0, x -> x.row(0, 0, 0)).due(24, x -> x.row(0, 9, 24)).due(1, x -> x.row(0, 1, 1));
        for (int wrong : Edge.outside(0, 24)) {
            n.refuses(-1, x -> x.row(0, 0, wrong)).refuses(-1, x -> x.row(0, 9, wrong)).refuses(-1, x -> x.row(0, 2, wrong));
        }
        aired(9, "-1, doing nothing, if n is below 0 or above 24.", "damp 0-0;").call(x -> x.row(0, 0, 24))
                .call(x -> x.air(0, 0, 0)).call(x -> x.put(0, 0, 1, bits(5f)))
                .refuses(-1, x -> x.row(0, 0, 25)).refuses(-1, x -> x.row(0, 0, -1)).until(2).due(1, x -> x.breaches());
        Edge noSuch = Edge.of(9, "IndexOutOfBoundsException: no such SHEET or ROW (so below).").times(2, x -> x.sheet())
                .due(3, x -> x.row(1, 9, 3)).due(3, x -> x.row(0, 0, 3));
        for (int wrong : Edge.outside(0, 1)) {
            noSuch.refuses(Edge.INDEX, x -> x.row(wrong, 0, 1)).refuses(Edge.INDEX, x -> x.row(wrong, 0, 25));
        }
        for (int wrong : Edge.outside(0, 9)) {
            noSuch.refuses(Edge.INDEX, x -> x.row(0, wrong, 1)).refuses(Edge.INDEX, x -> x.row(0, wrong, -1));
        }
    }

    private static void rowsAreZero() {
        aired(9, "A ROW of n numbers, all 0, comes in the place of ROW k: n", "damp 0-0;").call(x -> x.row(0, 3, 24))
                .call(x -> x.air(0, 0, 3)).call(x -> x.put(0, 3, 1, bits(5f))).call(x -> x.put(0, 3, 2, bits(5f)))
                .call(x -> x.put(0, 3, 23, bits(5f))).call(x -> x.put(0, 3, 0, bits(5f))).until(2).due(1, x -> x.breaches())
                .due(24, x -> x.row(0, 3, 24)).until(25).due(1, x -> x.breaches()).due(0, x -> x.unknown(0))
                .due(2, x -> x.row(0, 3, 2)).until(26).due(0, x -> x.unknown(0)).until(27).due(1, x -> x.unknown(0))
                .due(24, x -> x.row(0, 3, 24)).until(28).due(1, x -> x.unknown(0));
    }

    private static void put() {
        Edge.of(10, "-1: the ROW is missing").times(4, x -> x.sheet()).refuses(-1, x -> x.put(0, 0, 0, 1))
                .refuses(-1, x -> x.put(3, 9, 0, 1)).refuses(-1, x -> x.put(3, 9, -1, 1))
                .refuses(-1, x -> x.put(3, 9, 24, 1))
                .call(x -> x.row(3, 9, 1)).due(1, x -> x.put(3, 9, 0, 1)).refuses(-1, x -> x.put(3, 8, 0, 1))
                .refuses(-1, x -> x.put(2, 9, 0, 1)).call(x -> x.tear(3, 9)).refuses(-1, x -> x.put(3, 9, 0, 1));
        Edge place = Edge.of(10, "-2: there is no such place.").call(x -> x.sheet()).call(x -> x.row(0, 0, 0))
                .call(x -> x.row(0, 1, 1)).call(x -> x.row(0, 2, 24)).refuses(-2, x -> x.put(0, 0, 0, 1))
                .due(1, x -> x.put(0, 1, 0, 1)).due(1, x -> x.put(0, 2, 0, 1)).due(1, x -> x.put(0, 2, 23, 1));
        for (int wrong : Edge.outside(0, 0)) {
            place.refuses(-2, x -> x.put(0, 1, wrong, 1));
        }
        for (int wrong : Edge.outside(0, 23)) {
            place.refuses(-2, x -> x.put(0, 2, wrong, 1));
        }
        Edge noSuch = Edge.of(10, "IndexOutOfBoundsException: no such SHEET or ROW (so below).").times(2, x -> x.sheet())
                .call(x -> x.row(1, 9, 1)).due(1, x -> x.put(1, 9, 0, 1));
        for (int wrong : Edge.outside(0, 1)) {
            noSuch.refuses(Edge.INDEX, x -> x.put(wrong, 9, 0, 1)).refuses(Edge.INDEX, x -> x.put(wrong, 9, -1, 1));
        }
        for (int wrong : Edge.outside(0, 9)) {
            noSuch.refuses(Edge.INDEX, x -> x.put(1, wrong, 0, 1)).refuses(Edge.INDEX, x -> x.put(1, wrong, 24, 1));
        }
        aired(10, "The number at place i of ROW k becomes the float of these bits: 1", "damp 0-0;")
                .call(x -> x.row(0, 9, 24))
                .call(x -> x.air(0, 0, 9)).due(1, x -> x.put(0, 9, 2, bits(1f))).until(2).due(0, x -> x.breaches())
                .until(3).due(1, x -> x.breaches()).until(4).due(1, x -> x.breaches())
                .due(1, x -> x.put(0, 9, 4, bits(1f))).due(1, x -> x.put(0, 9, 4, 0)).until(5).due(1, x -> x.breaches())
                .refuses(-2, x -> x.put(0, 9, 24, bits(1f))).refuses(-1, x -> x.put(0, 8, 5, bits(1f)));
    }

    private static void tear() {
        Edge.of(11, "ROW k is missing again: 1; 0: it was.").times(2, x -> x.sheet()).refuses(0, x -> x.tear(0, 0))
                .call(x -> x.row(0, 0, 0)).call(x -> x.row(1, 9, 24)).due(1, x -> x.tear(0, 0)).refuses(0, x -> x.tear(0, 0))
                .refuses(0, x -> x.tear(1, 8)).refuses(0, x -> x.tear(0, 9)).due(1, x -> x.put(1, 9, 23, 1))
                .due(1, x -> x.tear(1, 9)).refuses(-1, x -> x.put(1, 9, 23, 1)).refuses(0, x -> x.tear(1, 9));
        Edge noSuch = Edge.of(11, "IndexOutOfBoundsException: no such SHEET or ROW (so below).").times(2, x -> x.sheet())
                .call(x -> x.row(0, 0, 1)).call(x -> x.row(1, 9, 1));
        for (int wrong : Edge.outside(0, 1)) {
            noSuch.refuses(Edge.INDEX, x -> x.tear(wrong, 0));
        }
        for (int wrong : Edge.outside(0, 9)) {
            noSuch.refuses(Edge.INDEX, x -> x.tear(0, wrong));
        }
        noSuch.due(1, x -> x.tear(0, 0)).due(1, x -> x.tear(1, 9));
        aired(11, "ROW k is missing again: 1; 0: it was.", "damp 0-0;").call(x -> x.row(0, 0, 24)).call(x -> x.air(0, 0, 0))
                .until(2).due(0, x -> x.unknown(0)).due(1, x -> x.tear(0, 0)).until(3).due(1, x -> x.unknown(0))
                .call(x -> x.row(0, 0, 24)).until(4).due(1, x -> x.unknown(0));
    }

    // ---- AIR, as "damp" sees it

    private static void cut() {
        String sentence = "the number of that hour of the day in the ROOM's ROW, cut to a whole number (as a cast does)";
        float[] numbers = {0f, -0f, 0.999f, 1f, 1.999f, -0.999f, -1f, -1.5f, 39.999f, 40f, 60.999f, 61f, 999998.94f, 999999f,
            999999.94f, 1000000f, 8388607.5f, 16777216f, 2147483520f, 2147483648f, -2147483648f, 3e9f, -3e9f,
            Float.MIN_VALUE, -Float.MIN_VALUE, Float.MIN_NORMAL, Float.MAX_VALUE, -Float.MAX_VALUE,
            Float.POSITIVE_INFINITY, Float.NEGATIVE_INFINITY};
        for (float number : numbers) {
            int air = (int) number;
            cutAgainst(sentence, number, 0, 999999);
            for (int bound : new int[] {air - 1, air, air + 1}) {
                if (bound >= 0 && bound <= 999999) {
                    cutAgainst(sentence, number, bound, 999999);
                    cutAgainst(sentence, number, 0, bound);
                }
            }
        }
    }

    private static void cutAgainst(String sentence, float number, int least, int most) {
        int air = (int) number;
        aired(24, sentence, "damp " + least + "-" + most + ";").call(x -> x.row(0, 0, 2)).call(x -> x.air(0, 0, 0))
                .call(x -> x.put(0, 0, 1, bits(number))).until(2).due(air < least || air > most ? 1 : 0, x -> x.breaches())
                .due(0, x -> x.unknown(0));
    }

    private static void unknownAir() {
        aired(25, "it is UNKNOWN if no ROW is told, it is missing, or ends ahead of that hour", "damp 1-0;")
                .until(2).due(1, x -> x.unknown(0))
                .call(x -> x.air(0, 0, 0)).until(3).due(2, x -> x.unknown(0))
                .call(x -> x.row(0, 0, 0)).until(4).due(3, x -> x.unknown(0)).due(0, x -> x.breaches())
                .call(x -> x.row(0, 0, 5)).until(5).due(3, x -> x.unknown(0)).due(1, x -> x.breaches())
                .until(6).due(4, x -> x.unknown(0)).due(1, x -> x.breaches())
                .call(x -> x.row(0, 0, 23)).until(23).due(4, x -> x.unknown(0)).due(18, x -> x.breaches())
                .until(24).due(5, x -> x.unknown(0)).due(18, x -> x.breaches())
                .until(25).due(5, x -> x.unknown(0)).due(19, x -> x.breaches())
                .call(x -> x.row(0, 0, 24)).until(49).due(5, x -> x.unknown(0)).due(43, x -> x.breaches())
                .call(x -> x.tear(0, 0)).until(50).due(6, x -> x.unknown(0)).due(43, x -> x.breaches());
    }

    private static void worstAir() {
        int[] noNumbers = {NAN, 0x7f800001, 0x7fffffff, 0xffc00000, 0xff800001, -1};
        for (int noNumber : noNumbers) {
            aired(10, "it is WORST if it is no number (NaN)", "damp 0-999999;").call(x -> x.row(0, 0, 3))
                    .call(x -> x.air(0, 0, 0))
                    .due(1, x -> x.put(0, 0, 1, noNumber)).until(2).breachesAre(new int[] {1, 0, 0})
                    .due(0, x -> x.unknown(0))
                    .until(3).due(1, x -> x.breaches());
        }
        for (int infinite : new int[] {0x7f800000, 0xff800000}) {
            aired(10, "it is WORST if it is no number (NaN)", "damp 1-0; damp 0-999999;").call(x -> x.row(0, 0, 2))
                    .call(x -> x.air(0, 0, 0)).call(x -> x.put(0, 0, 1, infinite)).until(2).due(2, x -> x.breaches())
                    .due(0, x -> x.unknown(0));
        }
    }

    // ---- 25: unknown

    private static void unknown() {
        Edge once = Edge.of(25, "AIR that is UNKNOWN is counted, for the ROOM, once an HOUR in which something hangs there.");
        once.stored(0, 0, 1, 2).call(x -> x.room(0, 100, 0, 0, 0)).call(x -> x.room(0, 100, 0, 0, 0))
                .until(5).due(0, x -> x.unknown(0)).due(0, x -> x.unknown(1))
                .call(x -> x.hang(0, 0)).call(x -> x.hang(1, 0)).call(x -> x.wait(0)).due(0, x -> x.unknown(0))
                .until(6).due(1, x -> x.unknown(0)).due(0, x -> x.unknown(1))
                .call(x -> x.hang(2, 1)).until(8).due(3, x -> x.unknown(0)).due(2, x -> x.unknown(1))
                .call(x -> x.down(0)).until(9).due(4, x -> x.unknown(0)).due(3, x -> x.unknown(1))
                .call(x -> x.down(1)).until(19).due(4, x -> x.unknown(0)).due(13, x -> x.unknown(1))
                .call(x -> x.hang(0, 0)).call(x -> x.down(0)).until(20).due(4, x -> x.unknown(0));
        Edge.of(25, "In how many HOURS AIR was UNKNOWN for a ROOM.").stored(0, 0).call(x -> x.room(0, 10, 0, 0, 0))
                .due(0, x -> x.unknown(0)).call(x -> x.hang(0, 0)).call(x -> x.wait(1000)).due(1000, x -> x.unknown(0));
        Edge noSuch = Edge.of(25, "NoSuchElementException: no such ROOM (so below)").times(2, x -> x.room(0, 10, 0, 0, 0))
                .due(0, x -> x.unknown(1));
        for (int wrong : Edge.outside(0, 1)) {
            noSuch.refuses(Edge.ELEMENT, x -> x.unknown(wrong));
        }
    }
}

/** Edges of the promises 28 and 29: step, hanging. */
final class HangingEdges {
    private HangingEdges() {
    }

    static void all() {
        someWorks();
        fortyWorks();
        noSuch();
        noBits();
        chapters();
        apart();
        best();
        length();
        kth();
    }

    private static Edge heights(int promise, String sentence, int... heights) {
        Edge edge = Edge.of(promise, sentence).call(x -> x.room(0, 5000, 0, 0, 0));
        for (int height : heights) {
            edge.call(x -> x.work(0, 50, height, 0, 0));
        }
        return edge;
    }

    private static Edge bestIs(Edge edge, int bits, int step, int... works) {
        edge.due(step, x -> x.step(0, bits));
        for (int i = 0; i < works.length; i++) {
            int k = i;
            edge.due(works[k], x -> x.hanging(0, bits, k));
        }
        return edge.due(-1, x -> x.hanging(0, bits, works.length)).due(-1, x -> x.hanging(0, bits, -1));
    }

    private static void someWorks() {
        String seven = "HANGING of a ROOM by some WORKS (7 at most, told by bits among the first 31)";
        Edge many = heights(28, seven, 1, 2, 3, 4, 5, 6, 7, 8);
        bestIs(many, 0x7f, 6, 0, 1, 2, 3, 4, 5, 6);
        bestIs(many, 0xfe, 6, 1, 2, 3, 4, 5, 6, 7);
        bestIs(many, 0xff, -1);
        many.refuses(-1, x -> x.step(0, 0xff)).refuses(-1, x -> x.hanging(0, 0xff, 0));
        Edge first = Edge.of(28, seven).call(x -> x.room(0, 5000, 0, 0, 0)).times(31, x -> x.work(0, 1, 9, 0, 0))
                .due(0, x -> x.step(0, 1 << 30))
                .due(30, x -> x.hanging(0, 1 << 30, 0)).due(0, x -> x.hanging(0, 1 << 30 | 1, 0))
                .due(30, x -> x.hanging(0, 1 << 30 | 1, 1));
        first.refuses(Edge.ELEMENT, x -> x.step(0, 1 << 31)).call(x -> x.work(0, 1, 9, 0, 0))
                .refuses(Edge.ELEMENT, x -> x.step(0, 1 << 31))
                .refuses(Edge.ELEMENT, x -> x.step(0, 1 << 31 | 1)).refuses(Edge.ELEMENT, x -> x.hanging(0, 1 << 31, 0))
                .refuses(-1, x -> x.step(0, Integer.MAX_VALUE)).refuses(Edge.ELEMENT, x -> x.step(0, -1));
    }

    /** A shift by 32 is one by 0: the works behind the first 31 must not come in by the bits of the first. */
    private static void fortyWorks() {
        String some = "HANGING of a ROOM by some WORKS (7 at most, told by bits among the first 31)";
        Edge forty = Edge.of(28, some).call(x -> x.room(0, 5000, 0, 0, 0));
        for (int i = 0; i < 40; i++) {
            int height = 1 + i;
            forty.call(x -> x.work(0, 50, height, 0, 0));
        }
        for (int i = 0; i < 31; i++) {
            bestIs(forty, 1 << i, 0, i);
        }
        bestIs(forty, 0x7f, 6, 0, 1, 2, 3, 4, 5, 6);
        bestIs(forty, 1 << 30 | 0x81, 30, 0, 7, 30);
        bestIs(forty, 0xff, -1);
        forty.refuses(Edge.ELEMENT, x -> x.step(0, 1 << 31)).refuses(Edge.ELEMENT, x -> x.hanging(0, 1 << 31 | 1, 0));
    }

    private static void noSuch() {
        Edge bits = heights(28, "NoSuchElementException: no such ROOM, or bits tell no WORK.", 1, 2, 3)
                .due(2, x -> x.step(0, 7));
        for (int wrong : new int[] {8, 9, 15, 16, 1 << 30, 1 << 31, -1, 0xff8}) {
            bits.refuses(Edge.ELEMENT, x -> x.step(0, wrong)).refuses(Edge.ELEMENT, x -> x.hanging(0, wrong, 0));
        }
        for (int wrong : Edge.outside(0, 0)) {
            bits.refuses(Edge.ELEMENT, x -> x.step(wrong, 1)).refuses(Edge.ELEMENT, x -> x.step(wrong, 0))
                    .refuses(Edge.ELEMENT, x -> x.hanging(wrong, 1, 0)).refuses(Edge.ELEMENT, x -> x.hanging(wrong, 0, 0));
        }
        Edge.of(28, "NoSuchElementException: no such ROOM, or bits tell no WORK.").call(x -> x.room(0, 1, 0, 0, 0))
                .refuses(Edge.ELEMENT, x -> x.step(0, 1)).refuses(Edge.ELEMENT, x -> x.hanging(0, 1, 0));
        heights(28, "NoSuchElementException: no such ROOM, or bits tell no WORK.", 1, 2, 3, 4, 5, 6, 7, 8, 9)
                .refuses(-1, x -> x.step(0, 0x1ff)).refuses(Edge.ELEMENT, x -> x.step(0, 0x3ff));
    }

    private static void noBits() {
        String none = "NONE: there is no order, none of these WORKS is told, or they are more than 7.";
        bestIs(heights(28, none, 5, 6), 0, -1);
        bestIs(Edge.of(28, none).call(x -> x.room(0, 1, 0, 0, 0)), 0, -1);
        bestIs(heights(28, none, 5, 6).loan("apart 0;", 0, 0), 3, -1);
        bestIs(heights(28, none, 5, 6).loan("apart 0;", 0, 0), 1, 0, 0);
        bestIs(heights(28, none, 5, 6).loan("apart 0;", 0, 0), 2, 0, 1);
    }

    private static Edge chaptered(int[]... heightAndChapter) {
        Edge edge = Edge.of(28, "all orders in which those of one CHAPTER (but 0) stand side by side")
                .call(x -> x.room(0, 5000, 0, 0, 0));
        for (int[] work : heightAndChapter) {
            edge.call(x -> x.work(0, 50, work[0], 0, work[1]));
        }
        return edge;
    }

    private static void chapters() {
        bestIs(chaptered(new int[] {10, 1}, new int[] {20, 2}, new int[] {30, 1}), 7, 30, 0, 2, 1);
        bestIs(chaptered(new int[] {10, 9}, new int[] {20, 8}, new int[] {30, 9}), 7, 30, 0, 2, 1);
        bestIs(chaptered(new int[] {10, 0}, new int[] {20, 2}, new int[] {30, 0}), 7, 20, 0, 1, 2);
        bestIs(chaptered(new int[] {10, 0}, new int[] {20, 0}, new int[] {30, 0}), 7, 20, 0, 1, 2);
        bestIs(chaptered(new int[] {10, 1}, new int[] {20, 0}, new int[] {30, 1}), 7, 30, 0, 2, 1);
        bestIs(chaptered(new int[] {10, 1}, new int[] {20, 2}, new int[] {11, 2}, new int[] {21, 1}), 15, 21, 0, 3, 1, 2);
        bestIs(chaptered(new int[] {10, 3}, new int[] {11, 3}, new int[] {12, 3}), 7, 2, 0, 1, 2);
        Edge seven = chaptered(new int[] {10, 3}, new int[] {40, 3}, new int[] {20, 5}, new int[] {30, 5},
                new int[] {70, 9}, new int[] {60, 9}, new int[] {50, 3});
        bestIs(seven, 0x7f, 80, 3, 2, 0, 1, 6, 5, 4);
        bestIs(seven, 3, 30, 0, 1);
        bestIs(seven, 0x33, 60, 0, 1, 5, 4);
        bestIs(seven, 0x7f, 80, 3, 2, 0, 1, 6, 5, 4);
        chaptered(new int[] {10, 1}, new int[] {20, 0}, new int[] {30, 1}).call(x -> x.work(1, 50, 20, 0, 1))
                .loan("apart 0;", 1, 0)
                .due(-1, x -> x.step(0, 13)).due(-1, x -> x.step(0, 11)).due(30, x -> x.step(0, 7))
                .due(-1, x -> x.step(0, 15));
    }

    private static void apart() {
        String sentence = "no \"apart\" (today) names the LENDER of a neighbour.";
        Edge lenders = Edge.of(28, sentence).call(x -> x.room(0, 5000, 0, 0, 0)).call(x -> x.work(0, 50, 10, 0, 0))
                .call(x -> x.work(1, 50, 11, 0, 0)).call(x -> x.work(9, 50, 12, 0, 0));
        bestIs(lenders, 7, 2, 0, 1, 2);
        lenders.loan("apart 8; apart 9;", 1, 0);
        bestIs(lenders, 7, 3, 1, 0, 2);
        bestIs(lenders, 6, -1);
        bestIs(lenders, 5, 2, 0, 2);
        lenders.call(x -> x.loan(0, 1, 1)).until(23);
        bestIs(lenders, 6, -1);
        lenders.until(24);
        bestIs(lenders, 6, 1, 1, 2);
        lenders.loan("apart 0;", 9, 2).until(47);
        bestIs(lenders, 5, 2, 0, 2);
        lenders.until(48);
        bestIs(lenders, 5, -1);
        bestIs(lenders, 7, 2, 0, 1, 2);
    }

    private static void best() {
        bestIs(heights(28, "STEP: the sum of how much HEIGHTS of neighbours differ.", 500), 1, 0, 0);
        bestIs(heights(28, "STEP: the sum of how much HEIGHTS of neighbours differ.", 1, 500), 3, 499, 0, 1);
        bestIs(heights(28, "STEP: the sum of how much HEIGHTS of neighbours differ.", 500, 1), 3, 499, 0, 1);
        Edge zigzag = Edge.of(28, "STEP: the sum of how much HEIGHTS of neighbours differ.")
                .call(x -> x.room(0, 5000, 0, 0, 0));
        for (int i = 0; i < 7; i++) {
            int at = i;
            zigzag.call(x -> x.work(at % 2, 50, at % 2 == 0 ? 500 : 1, 0, 0));
        }
        zigzag.loan("apart 0;", 0, 0).loan("apart 1;", 1, 0);
        bestIs(zigzag, 0x7f, 6 * 499, 0, 1, 2, 3, 4, 5, 6);
        String first = "BEST: the orders of the least STEP, of these the first (by WORKS' numbers, left to right).";
        bestIs(heights(28, first, 7, 7, 7, 7, 7, 7, 7), 0x7f, 0, 0, 1, 2, 3, 4, 5, 6);
        bestIs(heights(28, first, 9, 5, 7), 7, 4, 0, 2, 1);
        bestIs(heights(28, first, 7, 9, 5), 7, 4, 1, 0, 2);
        bestIs(heights(28, first, 30, 10, 20, 10, 30, 20, 500), 0x7f, 490, 1, 3, 2, 5, 0, 4, 6);
        bestIs(heights(28, first, 9, 1, 5, 3), 10, 2, 1, 3);
        bestIs(heights(28, first, 20, 12, 10, 30), 15, 20, 2, 1, 0, 3);
        bestIs(heights(28, first, 30, 20, 12, 10), 15, 20, 0, 1, 2, 3);
        heights(28, "The STEP of BEST", 9, 5, 7).due(4, x -> x.step(0, 7)).due(4, x -> x.step(0, 3))
                .due(2, x -> x.step(0, 6)).due(2, x -> x.step(0, 5));
    }

    private static void length() {
        Edge lengths = Edge.of(28, "None, if WIDTHS and 30 between two come to more than LENGTH.")
                .call(x -> x.work(0, 100, 1, 0, 0))
                .call(x -> x.work(0, 50, 3, 0, 0)).call(x -> x.work(0, 7, 3, 0, 0));
        int[][] due = {{99, 1, -1}, {100, 1, 0}, {179, 3, -1}, {180, 3, 2}, {216, 7, -1}, {217, 7, 2}};
        for (int i = 0; i < due.length; i++) {
            int room = i;
            lengths.call(x -> x.room(0, due[room][0], 0, 0, 0)).due(due[room][2], x -> x.step(room, due[room][1]))
                    .due(due[room][2] == -1 ? -1 : 0, x -> x.hanging(room, due[room][1], 0));
        }
        Edge.of(28, "None, if WIDTHS and 30 between two come to more than LENGTH.").times(7, x -> x.work(0, 500, 1, 0, 0))
                .call(x -> x.room(0, 3679, 0, 0, 0)).call(x -> x.room(0, 3680, 0, 0, 0)).due(-1, x -> x.step(0, 0x7f))
                .due(0, x -> x.step(1, 0x7f));
    }

    private static void kth() {
        Edge kth = heights(29, "The k-th WORK of BEST from the left; NONE without one, likewise.", 9, 5, 7)
                .due(0, x -> x.hanging(0, 7, 0)).due(2, x -> x.hanging(0, 7, 1)).due(1, x -> x.hanging(0, 7, 2));
        for (int wrong : Edge.outside(0, 2)) {
            kth.refuses(-1, x -> x.hanging(0, 7, wrong)).refuses(Edge.ELEMENT, x -> x.hanging(0, 8, wrong))
                    .refuses(Edge.ELEMENT, x -> x.hanging(1, 7, wrong));
        }
        kth.refuses(-1, x -> x.hanging(0, 0, 0)).refuses(-1, x -> x.hanging(0, 3, 2)).due(1, x -> x.hanging(0, 3, 1));
        kth.loan("apart 0;", 0, 0).refuses(-1, x -> x.hanging(0, 7, 0)).refuses(-1, x -> x.hanging(0, 3, 1))
                .due(1, x -> x.hanging(0, 2, 0));
        heights(29, "NONE without one, likewise.", 1, 2, 3, 4, 5, 6, 7, 8).refuses(-1, x -> x.hanging(0, 0xff, 0))
                .due(7, x -> x.hanging(0, 0xfe, 6))
                .due(-1, x -> x.hanging(0, 0xfe, 7));
    }
}

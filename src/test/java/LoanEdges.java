/** Edges of the promises 12 to 15: feed, loan, force, barred; and of the texts of loans. */
final class LoanEdges {
    private static final int LEAST = Integer.MIN_VALUE;
    private static final int MOST = Integer.MAX_VALUE;
    private static final int BLANKS = 0x20202020;
    private static final String TEN = "rest 1;".repeat(10);

    private LoanEdges() {
    }

    static void all() {
        feed();
        highestFirst();
        loan();
        firstBytes();
        noText();
        thirtyLoans();
        clauses();
        numbers();
        words();
        blanks();
        places();
        fullTape();
        force();
        barred();
        barredByLight();
        barredFirst();
    }

    // ---- 12: feed

    private static void feed() {
        Edge full = Edge.of(12, "NONE, doing nothing, if there would be more than 200.");
        for (int i = 1; i <= 10; i++) {
            full.due(20 * i, x -> x.feed(BLANKS, BLANKS, BLANKS, BLANKS, BLANKS));
        }
        full.refuses(-1, x -> x.feed(0, 0, 0, 0, 0)).refuses(-1, x -> x.feed(BLANKS, BLANKS, BLANKS, BLANKS, BLANKS))
                .due(200, x -> x.count(6)).due(0, x -> x.loan(200, 0, 0)).due(0, x -> x.count(6))
                .due(20, x -> x.feed(0, 0, 0, 0, 0));
    }

    /** Each of the twenty bytes in turn is the one that can't stand there. */
    private static void highestFirst() {
        for (int i = 0; i < 20; i++) {
            int at = i;
            String text = " ".repeat(at) + ";" + " ".repeat(19 - at);
            Edge.of(12, "Twenty bytes come on the TAPE, of each number the highest first: how many there are").text(text)
                    .due(20, x -> x.count(6)).due(-2 - at, x -> x.loan(20, 0, 0));
            Edge.of(12, "Twenty bytes come on the TAPE, of each number the highest first: how many there are")
                    .text(" ".repeat(20) + text)
                    .due(40, x -> x.count(6)).due(-22 - at, x -> x.loan(40, 0, 0));
        }
        Edge.of(12, "Twenty bytes come on the TAPE, of each number the highest first: how many there are")
                .due(20, x -> x.feed(0x72657374, 0x2037373b, 0, 0, 0)).due(0, x -> x.loan(8, 0, 0));
        Edge.of(12, "Twenty bytes come on the TAPE, of each number the highest first: how many there are")
                .due(20, x -> x.feed(-1, -1, -1, -1, -1)).due(-2, x -> x.loan(20, 0, 0));
    }

    // ---- 13: loan

    private static void loan() {
        String sentence = "IllegalArgumentException: n is not 0 to the TAPE's bytes, no such LENDER, or the DAY not 0 to 10,000";
        Edge wrong = Edge.of(13, sentence).text(" ".repeat(40));
        for (int n : Edge.outside(0, 40)) {
            wrong.refuses(Edge.ARGUMENT, x -> x.loan(n, 0, 0));
        }
        for (int lender : Edge.outside(0, 9)) {
            wrong.refuses(Edge.ARGUMENT, x -> x.loan(0, lender, 0)).refuses(Edge.ARGUMENT, x -> x.loan(40, lender, 0));
        }
        for (int day : Edge.outside(0, 10000)) {
            wrong.refuses(Edge.ARGUMENT, x -> x.loan(0, 0, day));
        }
        wrong.due(40, x -> x.count(6)).due(0, x -> x.loan(40, 0, 0));
        Edge.of(13, sentence).text(" ").due(0, x -> x.loan(0, 0, 0)).refuses(Edge.ARGUMENT, x -> x.loan(1, 0, 0))
                .due(1, x -> x.loan(0, 9, 10000)).due(1, x -> x.force(9, 10000)).due(-1, x -> x.force(9, 9999));
        Edge.of(13, sentence).text(";").refuses(Edge.ARGUMENT, x -> x.loan(21, 0, 0))
                .refuses(Edge.ARGUMENT, x -> x.loan(1, 10, 0))
                .refuses(Edge.ARGUMENT, x -> x.loan(1, 0, -1)).due(-2, x -> x.loan(1, 0, 0));
    }

    private static void firstBytes() {
        String sentence = "The first n bytes of the TAPE (empty then) are a LOAN of a LENDER from a DAY on: its number, "
                + "or -2 less its PLACE.";
        Edge.of(13, sentence).text("rest 1;;").due(0, x -> x.loan(7, 0, 0)).due(0, x -> x.count(6)).due(1, x -> x.count(3));
        Edge.of(13, sentence).text("rest 1;;").due(-2 - 7, x -> x.loan(8, 0, 0)).due(0, x -> x.count(6))
                .due(0, x -> x.count(3));
        Edge.of(13, sentence).text(";".repeat(200)).due(0, x -> x.loan(0, 3, 7)).due(0, x -> x.count(6))
                .due(0, x -> x.force(3, 7)).due(-1, x -> x.force(3, 6)).due(20, x -> x.feed(0, 0, 0, 0, 0));
        String tape = "rest 12;damp 34-56;";
        int[] due = {0, -2, -2, -2, -6, -7, -8, -9, 0, -10, -10, -10, -14, -15, -16, -17, -18, -19, -20, 0};
        for (int i = 0; i < due.length; i++) {
            int n = i;
            Edge.of(13, sentence).text(tape).due(due[n], x -> x.loan(n, 0, 0)).due(0, x -> x.count(6));
        }
    }

    /** A text that is none takes the tape, and changes nothing else: no number, and no loan in force. */
    private static void noText() {
        Edge.of(13, "its number, or -2 less its PLACE").loan("cities 1;", 0, 0).call(x -> x.work(0, 1, 1, 0, 0))
                .text("cities 0; foo").due(-2 - 10, x -> x.loan(13, 0, 0)).due(1, x -> x.count(3)).due(0, x -> x.count(6))
                .due(0, x -> x.force(0, 0)).due(0, x -> x.barred(0, 0, 0)).due(-1, x -> x.barred(0, 1, 0))
                .due(1, x -> x.loan(0, 0, 0)).due(-1, x -> x.barred(0, 0, 0));
    }

    private static void thirtyLoans() {
        Edge full = Edge.of(13, "IllegalStateException: there are 30.");
        full.times(29, x -> x.loan(0, 0, 0)).text(";").due(-2, x -> x.loan(1, 0, 0)).due(29, x -> x.count(3))
                .due(29, x -> x.loan(0, 9, 0)).text("  ;").refuses(Edge.STATE, x -> x.loan(0, 0, 0))
                .refuses(Edge.STATE, x -> x.loan(2, 1, 1)).refuses(Edge.STATE, x -> x.loan(3, 1, 1))
                .due(30, x -> x.count(3)).due(20, x -> x.count(6)).due(-1, x -> x.force(1, 1)).due(28, x -> x.force(0, 0));
        Edge order = Edge.of(13, "IllegalStateException: there are 30.").times(30, x -> x.loan(0, 0, 0));
        order.refuses(Edge.ARGUMENT, x -> x.loan(1, 0, 0)).refuses(Edge.ARGUMENT, x -> x.loan(0, 10, 0))
                .refuses(Edge.ARGUMENT, x -> x.loan(0, 0, 10001)).refuses(Edge.STATE, x -> x.loan(0, 0, 0));
        Edge.of(13, "30 in all.").times(15, x -> x.loan(0, 0, 0)).times(15, x -> x.loan(0, 9, 10000))
                .refuses(Edge.STATE, x -> x.loan(0, 5, 5)).due(14, x -> x.force(0, 0)).due(29, x -> x.force(9, 10000));
    }

    // ---- the texts of loans

    private static void isText(String sentence, String text) {
        Edge.of(13, sentence).text(text).due(0, x -> x.loan(text.length(), 0, 0)).due(1, x -> x.count(3))
                .due(0, x -> x.count(6))
                .due(0, x -> x.force(0, 0));
    }

    private static void isNone(String sentence, String text, int place) {
        Edge.of(13, sentence).text(text).due(-2 - place, x -> x.loan(text.length(), 0, 0)).due(0, x -> x.count(3))
                .due(0, x -> x.count(6)).due(-1, x -> x.force(0, 0));
    }

    private static void clauses() {
        String text = "TEXT: { CLAUSE \";\" }";
        isText(text, "");
        isText(text, "until 1;");
        isText(text, "until 1;light 1;damp 1-1;rest 1;apart 1;cities 1;");
        isNone(text, ";", 0);
        isNone(text, "until 1;;", 8);
        isNone(text, "until 1", 7);
        isNone(text, "until 1 light 1;", 8);
        isNone(text, "until 1,", 7);

        String cities = "\"cities\" N { N } (N 0 to 4)";
        isText(cities, "cities 0;");
        isText(cities, "cities 4;");
        isText(cities, "cities 0 1 2 3 4;");
        isText(cities, "cities 4 4 4 4 4 4 4 4;");
        isNone(cities, "cities;", 6);
        isNone(cities, "cities", 6);
        isNone(cities, "cities 5;", 7);
        isNone(cities, "cities 4 5;", 9);
        isNone(cities, "cities 0 1 2 3 4 5;", 17);
        isNone(cities, "cities 999999;", 7);
        isNone(cities, "cities 1-2;", 8);

        for (String word : new String[] {"until", "light", "rest"}) {
            String sentence = "\"until\" N, \"light\" N, \"damp\" N \"-\" N, \"rest\" N, \"apart\" N (N 0 to 9)";
            int n = word.length() + 1;
            isText(sentence, word + " 0;");
            isText(sentence, word + " 999999;");
            isNone(sentence, word + ";", n - 1);
            isNone(sentence, word + " -1;", n);
            isNone(sentence, word + " 1 2;", n + 2);
            isNone(sentence, word + " 1-2;", n + 1);
            isNone(sentence, word, n - 1);
        }

        String damp = "\"damp\" N \"-\" N";
        isText(damp, "damp 0-0;");
        isText(damp, "damp 999999-999999;");
        isText(damp, "damp 60-40;");
        isNone(damp, "damp;", 4);
        isNone(damp, "damp 1;", 6);
        isNone(damp, "damp 1-;", 7);
        isNone(damp, "damp -1;", 5);
        isNone(damp, "damp 1 2;", 7);
        isNone(damp, "damp 1--2;", 7);
        isNone(damp, "damp 1-2-3;", 8);
        isNone(damp, "damp 1-2 3;", 9);

        String apart = "\"apart\" N (N 0 to 9)";
        isText(apart, "apart 0;");
        isText(apart, "apart 9;");
        isNone(apart, "apart 10;", 6);
        isNone(apart, "apart 999999;", 6);
        isNone(apart, "apart 1 2;", 8);
        isNone(apart, "apart;", 5);

        String ten = "At most 10 CLAUSES.";
        isText(ten, TEN);
        isText(ten, TEN + "   ");
        isText(ten, "rest 1;".repeat(9));
        isNone(ten, TEN + "rest 1;", 70);
        isNone(ten, TEN + "   rest 1;", 73);
        isNone(ten, TEN + "rest", 70);
    }

    private static void numbers() {
        String digits = "N: a NUMBER of one to six digits, as many as stand there (a seventh can't).";
        isText(digits, "rest 0;");
        isText(digits, "rest 9;");
        isText(digits, "rest 000000;");
        isText(digits, "cities 000004;");
        isText(digits, "apart 000009;");
        isText(digits, "damp 000000-999999;");
        isNone(digits, "rest ;", 5);
        isNone(digits, "rest 1000000;", 11);
        isNone(digits, "rest 0000000;", 11);
        isNone(digits, "rest 12345678;", 11);
        isNone(digits, "rest 9999999", 11);
        isNone(digits, "cities 0000004;", 13);
        isNone(digits, "cities 0 0000004;", 15);
        isNone(digits, "cities 1234567;", 13);
        isNone(digits, "apart 0000009;", 12);
        isNone(digits, "damp 1234567-1;", 11);
        isNone(digits, "damp 1-1234567;", 13);
        isNone(digits, "rest /;", 5);
        isNone(digits, "rest :;", 5);
        isNone(digits, "rest 1/;", 6);
        isNone(digits, "rest 1:;", 6);
        isNone(digits, "rest 1" + (char) 0xb2 + ";", 6);
        isNone(digits, "rest +1;", 5);
        isNone(digits, "rest 1.5;", 6);
        isNone(digits, "rest 1e5;", 6);

        Edge.of(13, digits).loan("rest 000007;", 0, 0).call(x -> x.crate(1, 1)).call(x -> x.work(0, 1, 1, 0, 0))
                .call(x -> x.pack(0, 0)).call(x -> x.send(0, 0, 1)).until(7).refuses(-2, x -> x.unpack(0)).until(8)
                .due(1, x -> x.unpack(0));
        Edge.of(13, digits).loan("until 999999;", 0, 0).call(x -> x.work(0, 1, 1, 0, 0))
                .due(-1, x -> x.barred(0, 0, 999999)).due(0, x -> x.barred(0, 0, 1000000));

        String between = "one at least between two NUMBERS";
        isText(between, "cities 0 1;");
        isText(between, "cities 0   1;");
        isNone(between, "cities 12;", 7);
        Edge.of(13, between).loan("cities 01;", 0, 0).call(x -> x.work(0, 1, 1, 0, 0))
                .due(0, x -> x.barred(0, 0, 0)).due(-1, x -> x.barred(0, 1, 0));
        Edge.of(13, between).loan("cities 0 1;", 0, 0).call(x -> x.work(0, 1, 1, 0, 0))
                .due(-1, x -> x.barred(0, 0, 0)).due(-1, x -> x.barred(0, 1, 0)).due(0, x -> x.barred(0, 2, 0));
    }

    private static void words() {
        String letters = "WORDS are small letters, as many as stand there";
        isText(letters, "rest1;");
        isText(letters, "cities0 1;");
        isNone(letters, "rests 1;", 0);
        isNone(letters, "restuntil 1;", 0);
        isNone(letters, "res t 1;", 0);
        isNone(letters, "res", 0);
        isNone(letters, "arest 1;", 0);
        isNone(letters, "restz1;", 0);
        isNone(letters, "Rest 1;", 0);
        isNone(letters, "resT 1;", 0);
        isNone(letters, "rest`1;", 4);
        isNone(letters, "rest{1;", 4);
        isNone(letters, "resta;", 0);
        isNone(letters, "city 1;", 0);
        isNone(letters, "citieslight 1;", 0);
        isNone(letters, "rest a;", 5);
        isNone(letters, "rest 1a;", 6);
        isNone(letters, "cities 1 a;", 9);
        isNone(letters, "damp 1-a;", 7);
        for (String word : new String[] {"cities", "until", "light", "damp", "rest", "apart"}) {
            String behind = word.equals("damp") ? " 1-1;" : " 1;";
            isText(letters, word + behind);
            for (int i = 0; i < word.length(); i++) {
                isNone(letters, word.substring(0, i) + "z" + word.substring(i + 1) + behind, 0);
                isNone(letters, word.substring(0, i) + word.substring(i + 1) + behind, 0);
            }
            isNone(letters, word.substring(0, word.length() - 1), 0);
            isNone(letters, "z" + word + behind, 0);
            isNone(letters, word + "z" + behind, 0);
        }
        isNone(letters, "5;", 0);
        isNone(letters, "-", 0);
        isNone(letters, "" + (char) 0xe9, 0);
    }

    private static void blanks() {
        String sentence = "blanks (byte 32) may stand ahead of all these, and at the end";
        isText(sentence, " ");
        isText(sentence, " ".repeat(200));
        isText(sentence, "   rest   1   ;   until   2   ;   ");
        isText(sentence, "  damp  1  -  2  ;  cities  0  1  ;  ");
        isText(sentence, "damp1-2;cities0 1;");
        for (int code : new int[] {0, 9, 10, 13, 31, 33, 127, 160, 255}) {
            char other = (char) code;
            isNone(sentence, "" + other, 0);
            isNone(sentence, other + "rest 1;", 0);
            isNone(sentence, "rest" + other + "1;", 4);
            isNone(sentence, "rest 1" + other + ";", 6);
            isNone(sentence, "rest 1;" + other, 7);
            isNone(sentence, "cities 0" + other + "1;", 8);
        }
    }

    private static void places() {
        String word = "A text that is none has a PLACE: that of the first byte that can't stand there";
        isNone(word, "rest 1; until x; light x;", 14);
        isNone(word, "  ;rest 1;", 2);
        isNone(word, "cities 0,1;", 8);
        isNone(word, "damp 12345678901234-1;", 11);
        isNone(word, "damp 1 1234567;", 7);
        isNone(word, "damp 1;1234567", 6);
        isNone(word, "cities 12345678901234 5;", 13);
        isNone(word, "cities 5 1234567;", 7);
        String first = "(a WORD that can't, an 11th CLAUSE, a NUMBER beyond what it may be: its first byte; the end: its length)";
        isNone(first, "  foo 1;", 2);
        isNone(first, "rest 1;  untill 2;", 9);
        isNone(first, TEN + "  until 1;", 72);
        isNone(first, TEN + "  foo 1;", 72);
        isNone(first, TEN + ";", 70);
        isNone(first, "apart   10;", 8);
        isNone(first, "cities 0   12;", 11);
        isNone(first, "cities 000005;", 7);
        isNone(first, "apart 10", 6);
        isNone(first, "r", 0);
        isNone(first, "rest", 4);
        isNone(first, "rest  ", 6);
        isNone(first, "rest 1", 6);
        isNone(first, "rest 1   ", 9);
        isNone(first, "cities 0 ", 9);
        isNone(first, "damp 1", 6);
        isNone(first, "damp 1-", 7);
        isNone(first, "damp 1- ", 8);
        isNone(first, "damp 1-2", 8);
    }

    private static void fullTape() {
        String sentence = "the end: its length";
        isText(sentence, " ".repeat(193) + "rest 1;");
        isNone(sentence, " ".repeat(194) + "rest 1", 200);
        isNone(sentence, " ".repeat(199) + "r", 199);
        isNone(sentence, " ".repeat(199) + ";", 199);
        isNone(sentence, " ".repeat(196) + "rest", 200);
        isText(sentence, "cities" + " 4".repeat(96) + " ;");
        isNone(sentence, "cities" + " 4".repeat(97), 200);
    }

    // ---- 14: force

    private static void force() {
        String greatest = "on a DAY the one from the greatest DAY that is not later, of these the one told last.";
        Edge.of(14, greatest).call(x -> x.loan(0, 3, 5)).call(x -> x.loan(0, 3, 9)).call(x -> x.loan(0, 3, 2))
                .call(x -> x.loan(0, 4, 7)).call(x -> x.loan(0, 3, 5))
                .due(-1, x -> x.force(3, 1)).due(2, x -> x.force(3, 2)).due(2, x -> x.force(3, 4)).due(4, x -> x.force(3, 5))
                .due(4, x -> x.force(3, 8)).due(1, x -> x.force(3, 9)).due(1, x -> x.force(3, 10000))
                .due(1, x -> x.force(3, 10001))
                .due(1, x -> x.force(3, MOST)).due(-1, x -> x.force(4, 6)).due(3, x -> x.force(4, 7))
                .due(-1, x -> x.force(5, 7));
        Edge.of(14, "texts of a LENDER in force from a DAY on").call(x -> x.loan(0, 0, 0)).call(x -> x.loan(0, 9, 10000))
                .due(-1, x -> x.force(0, -1)).due(0, x -> x.force(0, 0)).due(0, x -> x.force(0, MOST))
                .due(-1, x -> x.force(9, 9999)).due(1, x -> x.force(9, 10000)).due(-1, x -> x.force(0, LEAST));
        Edge none = Edge.of(14, "NONE (also for a LENDER that is none).").due(-1, x -> x.force(0, 0))
                .call(x -> x.loan(0, 0, 0)).call(x -> x.loan(0, 9, 0));
        for (int wrong : Edge.outside(0, 9)) {
            none.refuses(-1, x -> x.force(wrong, 0)).refuses(-1, x -> x.force(wrong, MOST));
        }
        Edge.of(14, "The LOAN of a LENDER in force on a DAY").text(";").due(-2, x -> x.loan(1, 0, 0))
                .due(-1, x -> x.force(0, 0))
                .call(x -> x.loan(0, 0, 3)).due(0, x -> x.force(0, 3)).text(";").due(-2, x -> x.loan(1, 0, 3))
                .due(0, x -> x.force(0, 3));
    }

    // ---- 15: barred

    private static void barred() {
        Edge cities = Edge.of(15, "cities, if the CITY is none of them").loan("cities 1 4;", 0, 0)
                .call(x -> x.work(0, 1, 1, 0, 0));
        int[] due = {0, -1, 0, 0, -1};
        for (int i = 0; i < due.length; i++) {
            int city = i;
            cities.due(due[city], x -> x.barred(0, city, 0));
        }
        Edge.of(15, "until, if the DAY is above N").loan("until 5;", 0, 0).call(x -> x.work(0, 1, 1, 0, 0))
                .due(-1, x -> x.barred(0, 0, 5)).due(0, x -> x.barred(0, 0, 6)).due(0, x -> x.barred(0, 0, MOST));
        Edge.of(15, "until, if the DAY is above N").loan("until 0;", 0, 0).call(x -> x.work(0, 1, 1, 0, 0))
                .due(-1, x -> x.barred(0, 0, 0)).due(0, x -> x.barred(0, 0, 1));
        Edge.of(15, "Without a LOAN nothing is barred, and nothing breached.").call(x -> x.work(0, 1, 1, 0, 0))
                .due(-1, x -> x.barred(0, 0, 0)).loan("cities 0; until 0;", 1, 0).due(-1, x -> x.barred(0, 4, 9))
                .loan("cities 0; until 0;", 0, 3).due(-1, x -> x.barred(0, 4, 2)).due(0, x -> x.barred(0, 4, 3))
                .due(-1, x -> x.barred(0, 4, -1)).due(-1, x -> x.barred(0, 4, LEAST)).due(1, x -> x.barred(0, 0, 3));
        Edge wrong = Edge.of(15, "IllegalArgumentException: no such CITY.").loan("cities 0 1 2 3 4;", 0, 0)
                .call(x -> x.work(0, 1, 1, 0, 0)).due(-1, x -> x.barred(0, 0, 0)).due(-1, x -> x.barred(0, 4, 0));
        for (int city : Edge.outside(0, 4)) {
            wrong.refuses(Edge.ARGUMENT, x -> x.barred(0, city, 0)).refuses(Edge.ARGUMENT, x -> x.barred(0, city, -1));
        }
        Edge noSuch = Edge.of(15, "NoSuchElementException: no such WORK (so below)").call(x -> x.work(0, 1, 1, 0, 0))
                .due(-1, x -> x.barred(0, 0, 0));
        for (int work : Edge.outside(0, 0)) {
            noSuch.refuses(Edge.ELEMENT, x -> x.barred(work, 0, 0)).refuses(Edge.ELEMENT, x -> x.barred(work, 5, 0))
                    .refuses(Edge.ELEMENT, x -> x.barred(work, -1, -1));
        }
    }

    private static void barredByLight() {
        Edge.of(15, "light, if the WORK's LIGHT is above N.").stored(0, 0, 0).call(x -> x.room(0, 100, 1, 0, 24))
                .call(x -> x.hang(0, 0))
                .loan("light 1;", 0, 0).due(-1, x -> x.barred(0, 0, 0)).until(2).due(-1, x -> x.barred(0, 0, 0))
                .until(3).due(0, x -> x.barred(0, 0, 0)).due(-1, x -> x.barred(1, 0, 0))
                .loan("light 2;", 0, 0).due(-1, x -> x.barred(0, 0, 0)).loan("light 0;", 0, 0).due(0, x -> x.barred(0, 0, 0))
                .due(-1, x -> x.barred(1, 0, 0));
    }

    private static void barredFirst() {
        Edge first = Edge.of(15, "BARRED: the CLAUSE (from 0 on); NONE.");
        first.loan("rest 9; damp 1-0; apart 0; until 4; cities 0; light 0;", 0, 0).call(x -> x.work(0, 1, 1, 0, 0))
                .due(-1, x -> x.barred(0, 0, 4)).due(4, x -> x.barred(0, 1, 4)).due(3, x -> x.barred(0, 1, 5))
                .due(3, x -> x.barred(0, 0, 5));
        Edge last = Edge.of(15, "the first CLAUSE of the LOAN in force then that bars it")
                .loan("rest 1;".repeat(9) + "cities 0;", 0, 0)
                .call(x -> x.work(0, 1, 1, 0, 0)).due(-1, x -> x.barred(0, 0, 0)).due(9, x -> x.barred(0, 1, 0));
        last.loan("cities 0 1; cities 1 2;", 0, 3).due(9, x -> x.barred(0, 1, 2)).due(-1, x -> x.barred(0, 1, 3))
                .due(1, x -> x.barred(0, 0, 3)).due(0, x -> x.barred(0, 2, 3)).due(0, x -> x.barred(0, 3, 3));
    }
}

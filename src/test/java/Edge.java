import java.util.ArrayList;
import java.util.List;
import java.util.NoSuchElementException;
import java.util.stream.Collectors;

/**
 * The test of one sentence of the document: a run of calls on a new office, each with what is due. The calls are kept,
 * so that a refused one can be left out on a second office, which must then answer everything alike.
 */
final class Edge {
    static final Class<NoSuchElementException> ELEMENT = NoSuchElementException.class;
    static final Class<IllegalArgumentException> ARGUMENT = IllegalArgumentException.class;
    static final Class<IllegalStateException> STATE = IllegalStateException.class;
    static final Class<IndexOutOfBoundsException> INDEX = IndexOutOfBoundsException.class;

    /** The document promises nothing behind an object's 512th call. */
    static final int MOST_CALLS = 512;

    interface Call {
        int on(TravellingPictures x);
    }

    private final String name;
    private final TravellingPictures office = new TravellingPictures();
    private final List<Call> made = new ArrayList<>();
    private int callsMade;
    private int callsOnOffice;
    private List<String> answersNow;

    private Edge(int promise, String sentence) {
        Document.name(promise, sentence);
        name = "promise " + promise + ", '" + sentence + "'";
    }

    static Edge of(int promise, String sentence) {
        return new Edge(promise, sentence);
    }

    /** The values next to a range, and the farthest from it. */
    static int[] outside(int least, int most) {
        return new int[] {least - 1, most + 1, Integer.MIN_VALUE, Integer.MAX_VALUE};
    }

    /** A call that prepares: it must be taken, that is, answer 0 or more. */
    Edge call(Call call) {
        return call(1, call);
    }

    private Edge call(int calls, Call call) {
        String got = take(calls, call);
        if (got.startsWith("-") || got.contains("throws")) {
            tell("a preparing call answered " + got);
        }
        return this;
    }

    Edge times(int n, Call call) {
        for (int i = 0; i < n; i++) {
            call(call);
        }
        return this;
    }

    Edge due(int want, Call call) {
        String got = take(1, call);
        if (!got.equals(Integer.toString(want))) {
            tell("answered " + got + ", due is " + want);
        }
        return this;
    }

    /** The call answers so, and nothing is changed by it. */
    Edge refuses(int want, Call call) {
        return refuses(Integer.toString(want), call);
    }

    /** The call throws so, and nothing is changed by it. */
    Edge refuses(Class<? extends RuntimeException> want, Call call) {
        return refuses("throws." + want.getSimpleName(), call);
    }

    private Edge refuses(String want, Call call) {
        String got = outcome(office, call);
        count(1, 0);
        if (!got.equals(want)) {
            tell("answered " + got + ", due is " + want);
        }
        if (answersNow == null) {
            answersNow = new Probe(made, callsMade + 1).answers();
        }
        List<Call> withIt = new ArrayList<>(made);
        withIt.add(call);
        String difference = Probe.difference(answersNow, new Probe(withIt, callsMade + 1).answers());
        if (difference != null) {
            tell("a refused call changed something: " + difference);
        }
        return this;
    }

    /** Puts a text on the tape, filled up with zeros to twenties. */
    Edge text(String text) {
        for (int at = 0; at < text.length(); at += 20) {
            int from = at;
            call(x -> x.feed(Due.four(text, from), Due.four(text, from + 4), Due.four(text, from + 8),
                    Due.four(text, from + 12), Due.four(text, from + 16)));
        }
        return this;
    }

    Edge loan(String text, int lender, int day) {
        return text(text).call(x -> x.loan(text.length(), lender, day));
    }

    /** Works that are at home, four at most, go by a new crate to the store of a city, in one hour. */
    Edge delivers(int city, int... works) {
        call(x -> x.crate(600, 600));
        for (int work : works) {
            call(2, x -> x.pack(work, x.count(4) - 1));
        }
        call(2, x -> x.send(x.count(4) - 1, city, 1));
        call(x -> x.wait(1));
        return call(2, x -> x.unpack(x.count(4) - 1));
    }

    /** New works of these lenders, 10 by 10, in the store of a city one hour later. */
    Edge stored(int city, int... lenders) {
        call(x -> x.crate(600, 600));
        for (int lender : lenders) {
            call(x -> x.work(lender, 10, 10, 0, 0));
            call(3, x -> x.pack(x.count(0) - 1, x.count(4) - 1));
        }
        call(2, x -> x.send(x.count(4) - 1, city, 1));
        call(x -> x.wait(1));
        return call(2, x -> x.unpack(x.count(4) - 1));
    }

    /** Hours go by until it is this one. */
    Edge until(int hour) {
        count(1, 0);
        for (int left = hour - office.count(5); left > 0; left -= 1000) {
            int hours = Math.min(left, 1000);
            call(x -> x.wait(hours));
        }
        return this;
    }

    Edge breachesAre(int[]... due) {
        due(due.length, x -> x.breaches());
        for (int i = 0; i < due.length; i++) {
            for (int j = 0; j < 3; j++) {
                int k = i;
                int what = j;
                due(due[i][j], x -> x.breach(k, what));
            }
        }
        return due(-1, x -> x.breach(due.length, 0));
    }

    private String take(int calls, Call call) {
        made.add(call);
        answersNow = null;
        count(calls, calls);
        return outcome(office, call);
    }

    private void count(int onOffice, int kept) {
        callsOnOffice += onOffice;
        callsMade += kept;
        if (callsOnOffice > MOST_CALLS) {
            tell("the test itself makes more than 512 calls");
        }
    }

    static String outcome(TravellingPictures x, Call call) {
        return Due.outcome(() -> call.on(x));
    }

    private void tell(String what) {
        Due.tell(name + " (" + testLine() + "): " + what);
    }

    /** Where the test stands, its helpers first. */
    private static String testLine() {
        return StackWalker.getInstance().walk(frames -> frames
                .filter(frame -> frame.getClassName().endsWith("Edges"))
                .map(frame -> frame.getFileName() + ":" + frame.getLineNumber())
                .collect(Collectors.joining(" < ")));
    }
}

import java.util.function.IntSupplier;

/** What every test of the project shares: it counts the answers that are not as due. */
final class Due {
    private static int wrong = 0;

    private Due() {
    }

    static void is(String call, int want, int got) {
        if (got != want) {
            tell(call + " answered " + got + ", due is " + want);
        }
    }

    /** The exception must be the very one, thrown by a throw statement of the class and not by the machine or the library. */
    static void fails(String call, Class<? extends RuntimeException> want, IntSupplier asked) {
        String got = outcome(asked);
        if (!got.equals("throws." + want.getSimpleName())) {
            tell(call + " answered " + got + ", due is throws." + want.getSimpleName());
        }
    }

    static String outcome(IntSupplier asked) {
        try {
            return Integer.toString(asked.getAsInt());
        } catch (RuntimeException e) {
            StackTraceElement[] trace = e.getStackTrace();
            boolean own = trace.length > 0 && (trace[0].getClassName().startsWith("TravellingPictures")
                    || trace[0].getClassName().startsWith("NaiveOffice"));
            return (own ? "throws." : "the machine throws.") + e.getClass().getSimpleName();
        }
    }

    static void tell(String what) {
        wrong++;
        if (wrong <= 50) {
            System.out.println(what);
        }
    }

    static void end() {
        if (wrong != 0) {
            System.out.println(wrong + " answers are not as due");
            System.exit(1);
        }
    }

    /** Puts a text on the tape, filled up with zeros to twenties, and answers its length. */
    static int feed(TravellingPictures x, String text) {
        for (int at = 0; at < text.length(); at += 20) {
            x.feed(four(text, at), four(text, at + 4), four(text, at + 8), four(text, at + 12), four(text, at + 16));
        }
        return text.length();
    }

    static int four(String text, int at) {
        int number = 0;
        for (int i = at; i < at + 4; i++) {
            number = number << 8 | (i < text.length() ? text.charAt(i) & 255 : 0);
        }
        return number;
    }

    static int loan(TravellingPictures x, String text, int lender, int day) {
        return x.loan(feed(x, text), lender, day);
    }

    static void waitFor(TravellingPictures x, int hours) {
        for (int left = hours; left > 0; left -= 1000) {
            x.wait(Math.min(left, 1000));
        }
    }

    /** Brings a new work by a new crate into the store of a city, in one hour and its rest. */
    static int stored(TravellingPictures x, int lender, int width, int height, int chapter, int city) {
        int work = x.work(lender, width, height, 0, chapter);
        int crate = x.crate(600, 600);
        x.pack(work, crate);
        x.send(crate, city, 1);
        x.wait(1);
        x.unpack(crate);
        return work;
    }
}

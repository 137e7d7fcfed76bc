import java.util.Random;
import java.util.function.IntSupplier;

/** All promises: runs of 512 calls by chance, always the same ones, against NaiveOffice; and longer runs that must not break. */
final class RandomCallsTest {
    private static final String[] WORDS = {"cities", "until", "light", "damp", "rest", "apart"};

    private final Random random;
    private final boolean wild;
    private final TravellingPictures x = new TravellingPictures();
    private final NaiveOffice y;
    private String said = "";
    private int callsLeft;

    private RandomCallsTest(long seed, boolean wild, boolean compared) {
        this.random = new Random(seed);
        this.wild = wild;
        this.y = compared ? new NaiveOffice() : null;
    }

    public static void main(String[] args) {
        int runs = args.length > 0 ? Integer.parseInt(args[0]) : 400;
        for (int seed = 0; seed < runs; seed++) {
            new RandomCallsTest(seed, seed % 4 == 0, true).run("run " + seed, 512);
        }
        for (int seed = 0; seed < 20; seed++) {
            new RandomCallsTest(seed, seed % 2 == 0, false).run("long run " + seed, 5000);
        }
        Due.end();
    }

    private void run(String name, int calls) {
        callsLeft = calls;
        for (int i = 0; callsLeft > 0; i++) {
            String fault = call(i < 40 ? random.nextInt(10) : random.nextInt(50));
            if (fault != null) {
                Due.tell(name + ", call " + i + ": " + said + " " + fault);
                return;
            }
        }
    }

    private String same(String call, IntSupplier asked, IntSupplier due) {
        if (callsLeft == 0) {
            return null;
        }
        callsLeft--;
        said = call;
        String got = Due.outcome(asked);
        if (got.startsWith("the machine")) {
            return got;
        }
        if (y == null) {
            return null;
        }
        String want = Due.outcome(due);
        return got.equals(want) ? null : "answered " + got + ", due is " + want;
    }

    /** Asked of the naive office where there is one: the class itself is held to 512 calls, all of them compared. */
    private int count(int what) {
        return y == null ? x.count(what) : y.count(what);
    }

    private int breaches() {
        return y == null ? x.breaches() : y.breaches();
    }

    /** A number mostly within bounds, at times at their edge or far out. */
    private int some(int least, int most) {
        int way = random.nextInt(wild ? 12 : 60);
        if (way == 0) {
            return least - 1;
        }
        if (way == 1) {
            return most + 1;
        }
        if (way == 2) {
            return random.nextInt();
        }
        return least + random.nextInt(Math.max(1, most - least + 1));
    }

    private int aWork() {
        return some(0, count(0) - 1);
    }

    private int aRoom() {
        return some(0, count(1) - 1);
    }

    private int aCrate() {
        return some(0, count(4) - 1);
    }

    private String call(int kind) {
        switch (kind) {
            case 0: case 1: {
                int a = some(0, 3), b = some(1, 60), c = some(1, 60), d = some(0, 10000), e = some(0, 3);
                return same("work " + a + " " + b + " " + c + " " + d + " " + e, () -> x.work(a, b, c, d, e), () -> y.work(a, b, c, d, e));
            }
            case 2: {
                int a = some(0, 2), b = some(1, 400), c = some(0, 20), d = some(0, 24), e = some(d, 24);
                return same("room", () -> x.room(a, b, c, d, e), () -> y.room(a, b, c, d, e));
            }
            case 3: {
                int a = some(10, 70), b = some(10, 70);
                return same("crate", () -> x.crate(a, b), () -> y.crate(a, b));
            }
            case 4: case 5: return aLoan();
            case 6: return same("sheet", () -> x.sheet(), () -> y.sheet());
            case 7: {
                int a = some(0, count(2) - 1), b = some(0, 9), c = some(0, 24);
                return same("row", () -> x.row(a, b, c), () -> y.row(a, b, c));
            }
            case 8: {
                int a = aRoom(), b = some(0, count(2) - 1), c = some(0, 9);
                return same("air", () -> x.air(a, b, c), () -> y.air(a, b, c));
            }
            case 9: {
                int a = some(0, 4), b = some(0, 300), c = some(0, 9);
                return same("gain", () -> x.gain(a, b, c), () -> y.gain(a, b, c));
            }
            case 10: case 11: case 12: case 13: case 14: {
                int a = aWork(), b = aCrate();
                return same("pack " + a + " " + b, () -> x.pack(a, b), () -> y.pack(a, b));
            }
            case 15: case 16: case 17: {
                int a = aCrate(), b = some(0, 2), c = some(1, 12);
                return same("send", () -> x.send(a, b, c), () -> y.send(a, b, c));
            }
            case 18: case 19: case 20: {
                int a = aCrate();
                return same("unpack", () -> x.unpack(a), () -> y.unpack(a));
            }
            case 21: case 22: case 23: case 24: case 25: case 26: {
                int a = aWork(), b = aRoom();
                return same("hang " + a + " " + b, () -> x.hang(a, b), () -> y.hang(a, b));
            }
            case 27: {
                int a = aWork();
                return same("down", () -> x.down(a), () -> y.down(a));
            }
            case 28: case 29: case 30: case 31: {
                int a = random.nextInt(20) == 0 ? some(0, 1000) : some(0, 30);
                return same("wait " + a, () -> x.wait(a), () -> y.pass(a));
            }
            case 32: case 33: {
                int a = some(0, count(2) - 1), b = some(0, 9), c = some(0, 23), d = aFloat();
                return same("put", () -> x.put(a, b, c, d), () -> y.put(a, b, c, d));
            }
            case 34: {
                int a = some(0, count(2) - 1), b = some(0, 9);
                return same("tear", () -> x.tear(a, b), () -> y.tear(a, b));
            }
            default: return ask(kind);
        }
    }

    private String ask(int kind) {
        switch (kind) {
            case 35: case 36: {
                int a = aWork(), b = some(0, 8);
                return same("told " + a + " " + b, () -> x.told(a, b), () -> y.told(a, b));
            }
            case 37: {
                int a = aWork(), b = some(0, 8), c = some(0, 2);
                return same("history " + a + " " + b + " " + c, () -> x.history(a, b, c), () -> y.history(a, b, c));
            }
            case 38: {
                int a = aWork(), b = some(0, count(5));
                return same("lead " + a + " " + b, () -> x.lead(a, b), () -> y.lead(a, b));
            }
            case 39: {
                int a = some(0, 9), b = some(0, count(5) / 24 + 2);
                return same("force " + a + " " + b, () -> x.force(a, b), () -> y.force(a, b));
            }
            case 40: {
                int a = aWork(), b = some(0, 4), c = some(0, count(5) / 24 + 2);
                return same("barred " + a + " " + b + " " + c, () -> x.barred(a, b, c), () -> y.barred(a, b, c));
            }
            case 41: {
                int a = aCrate(), b = some(0, 3);
                return same("box " + a + " " + b, () -> x.box(a, b), () -> y.box(a, b));
            }
            case 42: {
                int a = aRoom(), b = some(0, 3);
                return same("wall " + a + " " + b, () -> x.wall(a, b), () -> y.wall(a, b));
            }
            case 43: {
                int a = aRoom();
                return same("unknown " + a, () -> x.unknown(a), () -> y.unknown(a));
            }
            case 44: return same("breaches", () -> x.breaches(), () -> y.breaches());
            case 45: {
                int a = some(0, Math.min(210, breaches())), b = some(0, 2);
                return same("breach " + a + " " + b, () -> x.breach(a, b), () -> y.breach(a, b));
            }
            case 46: {
                int a = aRoom(), b = someBits();
                return same("step " + a + " " + b, () -> x.step(a, b), () -> y.step(a, b));
            }
            case 47: {
                int a = aRoom(), b = someBits(), c = some(0, 6);
                return same("hanging " + a + " " + b + " " + c, () -> x.hanging(a, b, c), () -> y.hanging(a, b, c));
            }
            case 48: {
                int a = aWork();
                return same("tour " + a, () -> x.tour(a), () -> y.tour(a));
            }
            default: {
                int a = some(0, 6);
                return same("count " + a, () -> x.count(a), () -> y.count(a));
            }
        }
    }

    private int someBits() {
        int bits = random.nextInt(30) == 0 ? random.nextInt() : 0;
        for (int i = random.nextInt(random.nextInt(20) == 0 ? 10 : 6); i > 0; i--) {
            bits |= 1 << some(0, Math.min(31, count(0)) - 1);
        }
        return bits;
    }

    private int aFloat() {
        return random.nextInt(8) == 0 ? random.nextInt() : Float.floatToIntBits(random.nextFloat() * 100);
    }

    private String aLoan() {
        StringBuilder text = new StringBuilder();
        for (int i = random.nextInt(random.nextInt(10) == 0 ? 14 : 5); i > 0; i--) {
            text.append(aClause());
        }
        for (int i = random.nextInt(4) == 0 && text.length() > 0 ? 1 + random.nextInt(2) : 0; i > 0; i--) {
            int at = random.nextInt(text.length());
            String signs = "0123456789 ;-aeirst,A\0\u00e9";
            text.setCharAt(at, signs.charAt(random.nextInt(signs.length())));
        }
        String fault = null;
        for (int at = 0; at < text.length() && fault == null; at += 20) {
            String t = text.toString();
            int a = Due.four(t, at), b = Due.four(t, at + 4), c = Due.four(t, at + 8), d = Due.four(t, at + 12), e = Due.four(t, at + 16);
            fault = same("feed", () -> x.feed(a, b, c, d, e), () -> y.feed(a, b, c, d, e));
        }
        if (fault != null) {
            return fault;
        }
        int n = random.nextInt(20) == 0 ? some(0, count(6)) : Math.min(text.length(), count(6));
        int lender = some(0, 3);
        int day = some(0, count(5) / 24 + 3);
        return same("loan '" + text + "' " + n + " " + lender + " " + day, () -> x.loan(n, lender, day), () -> y.loan(n, lender, day));
    }

    private String blanks() {
        return random.nextInt(3) == 0 ? " " : "";
    }

    private String number(int most) {
        String digits = switch (random.nextInt(40)) {
            case 0 -> "0000001";
            case 1 -> "00000000000001";
            case 2 -> "";
            case 3 -> Integer.toString(most + 1);
            default -> Integer.toString(random.nextInt(most + 1));
        };
        return " " + digits + blanks();
    }

    private String aClause() {
        int kind = random.nextInt(6);
        StringBuilder clause = new StringBuilder(blanks() + WORDS[kind]);
        if (kind == 0) {
            for (int i = 0; i < 1 + random.nextInt(5); i++) {
                clause.append(number(4));
            }
        } else if (kind == 3) {
            clause.append(number(60)).append('-').append(number(90));
        } else {
            clause.append(number(kind == 1 ? 9 : kind == 2 ? 400 : kind == 4 ? 12 : 9));
        }
        return clause.append(random.nextInt(40) == 0 ? "" : ";").toString();
    }
}

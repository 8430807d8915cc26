import java.util.Arrays;
import java.util.NoSuchElementException;

/** What the tests share: answers held against those that are due, and books that are filled call by call. */
abstract class BookTest {
    static final int N = BallBook.NONE;
    static final int LEAST = Integer.MIN_VALUE;
    static final int MOST = Integer.MAX_VALUE;
    static final int WIDE = 16;
    static final int FOUL = 32;
    static final int OUT = 48;
    static final int RUN_OUT = 64;
    static final int DEAD = 80;
    static final int BYE = 96;
    static final int NOTE = 112;
    static final int RAIN = 128;
    static final int CLOSE = 144;
    private static int tests = 0;
    private static int wrong = 0;
    private static String at = "";

    interface Call {
        long answer();
    }

    interface Body {
        void run();
    }

    /** One sentence of the document; an exception that is not due fails it and leaves the others alone. */
    static void test(String sentence, Body body) {
        at = sentence;
        tests++;
        try {
            body.run();
        } catch (RuntimeException e) {
            fail("threw " + e);
        }
    }

    static void end() {
        System.out.println(wrong == 0 ? tests + " tests hold" : wrong + " answers are not as due");
        if (wrong != 0) {
            System.exit(1);
        }
    }

    static void fail(String what) {
        wrong++;
        int line = 0;
        for (StackTraceElement here : new Throwable().getStackTrace()) {
            if (line == 0 && !here.getClassName().startsWith("BookTest")) {
                line = here.getLineNumber();
            }
        }
        System.out.println(at + " (line " + line + "): " + what);
    }

    static void is(long got, long due) {
        if (got != due) {
            fail("answered " + got + ", due is " + due);
        }
    }

    static void is(boolean got, boolean due) {
        if (got != due) {
            fail("answered " + got + ", due is " + due);
        }
    }

    static void none(Call call) {
        long got;
        try {
            got = call.answer();
        } catch (NoSuchElementException e) {
            return;
        }
        fail("answered " + got + ", NoSuchElementException is due");
    }

    /** What turn(), over() or ball() told as it refused. */
    static void refusedBy(BallBook x, boolean done, int rule) {
        is(done, false);
        is(x.why(), rule);
    }

    /** A book with two sides of 11 and 12 players and one game. */
    static BallBook game(int overs, int turns) {
        BallBook x = new BallBook();
        x.side(11);
        x.side(12);
        x.toss(0, 1, overs, turns);
        return x;
    }

    static void balls(BallBook x, int... entries) {
        for (int entry : entries) {
            if (!x.ball(0, entry)) {
                fail("entry " + entry + " is refused by rule " + x.why());
            }
        }
    }

    static void overOf(BallBook x, int bowler, int... entries) {
        if (!x.over(0, bowler)) {
            fail("an over is refused by rule " + x.why());
        }
        balls(x, entries);
    }

    static void turnOf(BallBook x, int bowler, int... entries) {
        if (!x.turn(0)) {
            fail("a turn is refused by rule " + x.why());
        }
        overOf(x, bowler, entries);
    }

    static void nowIs(BallBook x, int what, int due) {
        is(x.now(0, what), due);
    }

    static void scoreIs(BallBook x, int turn, int what, int due) {
        is(x.score(0, turn, what), due);
    }

    /** The first thing on the page of game 0 that can't be: its rule, turn, over and entry. */
    static void cannot(BallBook x, int rule, int turn, int over, int entry) {
        nowIs(x, 11, rule);
        nowIs(x, 12, turn);
        nowIs(x, 13, over);
        nowIs(x, 14, entry);
    }

    static void rowIs(BallBook x, int turn, int over, int... entries) {
        is(x.overs(0, turn, over, 1), entries.length);
        for (int i = 0; i < entries.length; i++) {
            is(x.entry(0, turn, over, i), entries[i]);
        }
    }

    static void recordIs(BallBook x, int sort, int... due) {
        for (int what = 0; what < 6; what++) {
            is(x.record(sort, what), due[what]);
        }
    }

    static int[] imageOf(BallBook x, int game) {
        int[] bytes = new int[Math.max(x.image(game), 0)];
        for (int k = 0; k < bytes.length; k++) {
            bytes[k] = x.told(k);
        }
        return bytes;
    }

    static void feedBytes(BallBook x, int... bytes) {
        for (int from = 0; from < bytes.length; from += 20) {
            int[] n = new int[5];
            for (int k = 0; k < 20; k++) {
                n[k / 4] = n[k / 4] << 8 | (from + k < bytes.length ? bytes[from + k] : 0);
            }
            x.feed(n[0], n[1], n[2], n[3], n[4]);
        }
    }

    static int checked(BallBook x, int... bytes) {
        feedBytes(x, bytes);
        return x.check(bytes.length);
    }

    static int taken(BallBook x, int... bytes) {
        feedBytes(x, bytes);
        return x.take(bytes.length);
    }

    static int[] with(int[] bytes, int place, int b) {
        int[] other = bytes.clone();
        other[place] = b;
        return other;
    }

    static int[] cut(int[] bytes, int n) {
        return Arrays.copyOf(bytes, n);
    }

    static int[] times(int n, int entry) {
        int[] entries = new int[n];
        Arrays.fill(entries, entry);
        return entries;
    }
}

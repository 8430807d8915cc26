import com.sun.management.ThreadMXBean;
import java.lang.management.ManagementFactory;

/**
 * The dearest runs of 512 calls stay in the room (LANGUAGE.md, rule 12): an element takes a byte at least and an object
 * sixteen, so a run that makes fewer bytes than the room has elements is within both of its bounds.
 */
public final class RoomTest extends BookTest {
    private static final long ROOM = 7_300_000;
    private static final int CALLS = 512;

    public static void main(String[] args) {
        test("an object without calls", () -> fits(() -> new BallBook()));
        test("400 GAMES, each with a TURN", () -> fits(RoomTest::manyGames));
        test("OVERS and ENTRIES", () -> fits(RoomTest::manyOvers));
        test("changes and their undoing", () -> fits(RoomTest::manyChanges));
        test("images that are checked, of many OVERS", () -> fits(RoomTest::manyChecks));
        test("one image as long as the tape", () -> fits(RoomTest::longCheck));
        test("bytes that are no image", () -> fits(RoomTest::wrongChecks));
        test("what a GAME is, asked for again and again", () -> fits(RoomTest::manyQuestions));
        test("records over many GAMES", () -> fits(RoomTest::manyRecords));
        end();
    }

    /** The first run brings the machine's own objects, so it is the second that is measured. */
    private static void fits(Body run) {
        run.run();
        ThreadMXBean threads = (ThreadMXBean) ManagementFactory.getThreadMXBean();
        long id = Thread.currentThread().getId();
        long before = threads.getThreadAllocatedBytes(id);
        run.run();
        long made = threads.getThreadAllocatedBytes(id) - before;
        if (made >= ROOM) {
            fail("makes " + made + " bytes");
        }
    }

    private static void manyGames() {
        BallBook x = game(120, 2);
        for (int g = 1; g < 400; g++) {
            x.toss(0, 1, 120, 2);
        }
        for (int calls = 402; calls < CALLS; calls++) {
            x.turn(calls - 402);
        }
    }

    private static void manyOvers() {
        BallBook x = game(120, 2);
        for (int t = 0; t < 4; t++) {
            x.turn(0);
            for (int o = 0; o < 120; o++) {
                x.over(0, o % 10);
            }
            x.ball(0, CLOSE);
        }
    }

    private static void manyChanges() {
        BallBook x = game(120, 1);
        turnOf(x, 0, 1, 2, 3);
        for (int calls = 8; calls < CALLS; calls += 4) {
            x.put(0, 0, 0, 0, 4);
            x.tear(0, 0, 0);
            x.open(0, 0, 0, 0);
            x.undo();
        }
    }

    /** An image of a TURN with this many OVERS, all missing. */
    private static int[] missing(int overs) {
        int[] bytes = new int[28 + 1 + 2 * overs + 2];
        int[] head = imageOf(game(120, 1), 0);
        System.arraycopy(head, 0, bytes, 0, 27);
        bytes[27] = 1;
        bytes[28] = overs;
        for (int o = 0; o < overs; o++) {
            bytes[29 + 2 * o] = o % 10;
        }
        return bytes;
    }

    private static void manyChecks() {
        BallBook x = game(120, 1);
        int[] bytes = missing(120);
        for (int calls = 3; calls + 15 < CALLS; calls += 15) {
            is(taken(x, bytes) >= 0, true);
        }
    }

    private static void longCheck() {
        BallBook x = game(120, 2);
        int[] bytes = new int[6000];
        System.arraycopy(imageOf(x, 0), 0, bytes, 0, 27);
        bytes[27] = 4;
        int at = 28;
        for (int t = 0; t < 4; t++) {
            bytes[at] = 130;
            at += 1 + 2 * 130 + 2;
        }
        is(checked(x, bytes), at + 1);
    }

    private static void wrongChecks() {
        BallBook x = game(120, 1);
        for (int calls = 3; calls + 2 < CALLS; calls += 2) {
            x.feed(0, 0, 0, 0, 0);
            x.take(20);
        }
    }

    private static void manyQuestions() {
        BallBook x = game(120, 1);
        turnOf(x, 0, 1, 2, 3);
        for (int calls = 8; calls < CALLS; calls += 6) {
            x.mend(0, 0, 0, 0, calls % 7);
            x.sum(0);
            x.image(0);
            x.now(0, 6);
            none(() -> x.told(9000));
            none(() -> x.now(1, 0));
        }
    }

    private static void manyRecords() {
        BallBook x = game(120, 1);
        for (int g = 1; g < 100; g++) {
            x.toss(0, 1, 120, 1);
            x.turn(g);
        }
        for (int calls = 202; calls < CALLS; calls += 2) {
            x.over(calls % 99 + 1, calls % 11);
            x.record(calls % 4, 0);
        }
    }
}

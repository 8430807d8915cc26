/** For each promise of the document: ordinary inputs, its edges and wrong inputs, with answers worked out by hand. */
public final class PromiseTest extends BookTest {
    public static void main(String[] args) {
        test("promise 1, new object", PromiseTest::newObject);
        test("promise 2, side", PromiseTest::side);
        test("promise 3, player", PromiseTest::player);
        test("promise 4, toss", PromiseTest::toss);
        test("promise 5, seat", PromiseTest::seat);
        test("promise 6, turn", PromiseTest::turn);
        test("promise 7, over", PromiseTest::over);
        test("promise 8, ball", PromiseTest::ball);
        test("promise 8, ball, rain", PromiseTest::ballRain);
        test("promise 9, feed", PromiseTest::feed);
        test("promise 10, open", PromiseTest::open);
        test("promise 11, tear", PromiseTest::tear);
        test("promise 12, put", PromiseTest::put);
        test("promise 13, mend", PromiseTest::mend);
        test("promise 14, out", PromiseTest::out);
        test("promise 15, bowls", PromiseTest::bowls);
        test("promise 16, undo", PromiseTest::undo);
        test("promise 17, why", PromiseTest::why);
        test("promise 18, now", PromiseTest::now);
        test("promise 18, now, the chase", PromiseTest::nowChase);
        test("promise 18, now, the target", PromiseTest::nowTarget);
        test("promise 18, now, who wins", PromiseTest::winners);
        test("promise 19, how turns end", PromiseTest::howTurnsEnd);
        test("promise 19, score", PromiseTest::score);
        test("promise 20, overs", PromiseTest::overs);
        test("promise 21, entry", PromiseTest::entry);
        test("promise 22, bats", PromiseTest::bats);
        test("promise 23, fields", PromiseTest::fields);
        test("promise 24, record", PromiseTest::record);
        test("promise 24, record, later turns and games", PromiseTest::recordOfLaterTurns);
        test("promise 25, image", PromiseTest::image);
        test("promise 26, told", PromiseTest::told);
        test("promise 27, check", PromiseTest::check);
        test("promise 27, check, by play", PromiseTest::checkByPlay);
        test("promise 28, take", PromiseTest::take);
        test("promise 29, list", PromiseTest::list);
        test("promise 30, sum", PromiseTest::sum);
        end();
    }

    private static void newObject() {
        BallBook x = new BallBook();
        for (int what = 0; what < 5; what++) {
            is(x.list(what), 0);
        }
        none(() -> x.list(5));
        is(x.undo(), N);
        is(x.why(), 0);
        none(() -> x.now(0, 0));
        none(() -> x.told(0));
        is(BallBook.NONE, -1);
    }

    private static void side() {
        BallBook x = new BallBook();
        is(x.side(10), N);
        is(x.side(31), N);
        is(x.side(-1), N);
        is(x.side(Integer.MAX_VALUE), N);
        is(x.side(30), 0);
        is(x.list(5), 30);
        for (int k = 1; k < 60; k++) {
            is(x.side(11), k);
        }
        is(x.side(11), N);
        is(x.list(0), 60);
        is(x.list(64), 11);
        none(() -> x.list(65));
    }

    private static void player() {
        BallBook x = new BallBook();
        is(x.player(0), N);
        x.side(29);
        x.side(11);
        is(x.player(0), 29);
        is(x.player(0), N);
        is(x.player(1), 11);
        is(x.player(1), 12);
        is(x.player(2), N);
        is(x.player(-1), N);
        is(x.list(5), 30);
        is(x.list(6), 13);
    }

    private static void toss() {
        BallBook x = new BallBook();
        is(x.toss(0, 1, 1, 1), N);
        x.side(11);
        is(x.toss(0, 1, 1, 1), N);
        x.side(11);
        is(x.toss(0, 0, 1, 1), N);
        is(x.toss(-1, 0, 1, 1), N);
        is(x.toss(0, -1, 1, 1), N);
        is(x.toss(2, 0, 1, 1), N);
        is(x.toss(0, 1, 0, 1), N);
        is(x.toss(0, 1, 121, 1), N);
        is(x.toss(0, 1, 1, 0), N);
        is(x.toss(0, 1, 1, 3), N);
        is(x.toss(1, 0, 1, 2), 0);
        is(x.toss(0, 1, 120, 1), 1);
        is(x.image(0), 28);
        is(x.told(1), 1);
        is(x.told(2), 0);
        is(x.told(4), 2);
        for (int k = 2; k < 400; k++) {
            is(x.toss(0, 1, 5, 1), k);
        }
        is(x.toss(0, 1, 5, 1), N);
        is(x.list(1), 400);
    }

    private static void seat() {
        BallBook x = game(2, 1);
        is(x.seat(1, 0, 0, 0), false);
        is(x.seat(-1, 0, 0, 0), false);
        is(x.seat(0, 2, 0, 0), false);
        is(x.seat(0, -1, 0, 0), false);
        is(x.seat(0, 0, 11, 0), false);
        is(x.seat(0, 0, -1, 0), false);
        is(x.seat(0, 0, 0, 11), false);
        is(x.seat(0, 0, 0, -1), false);
        is(x.seat(0, 0, 3, 3), true);
        is(x.seat(0, 0, 0, 10), true);
        is(x.seat(0, 1, 4, 11), true);
        is(x.seat(0, 1, 5, 4), true);
        x.turn(0);
        is(x.bats(0, 0, 0, 3), 10);
        is(x.bats(0, 0, 10, 3), 0);
        is(x.bats(0, 0, 3, 3), 3);
        is(x.fields(0, 0, 4, 3), 11);
        is(x.fields(0, 0, 5, 3), 4);
        is(x.seat(0, 0, 0, 0), false);
        x.undo();
        is(x.seat(0, 0, 0, 0), true);
    }

    private static void turn() {
        BallBook x = game(1, 1);
        is(x.turn(1), false);
        is(x.why(), 0);
        is(x.turn(-1), false);
        is(x.turn(0), true);
        is(x.turn(0), false);
        is(x.why(), 1);
        overOf(x, 0, CLOSE);
        is(x.turn(0), true);
        is(x.turn(0), false);
        is(x.why(), 1);
        overOf(x, 0, CLOSE);
        is(x.turn(0), false);
        is(x.why(), 2);
        x.mend(0, 0, 0, 0, 255);
        is(x.turn(0), false);
        is(x.why(), 7);
        is(x.list(3), 7);
        BallBook two = game(1, 2);
        turnOf(two, 0, 1, CLOSE);
        turnOf(two, 0, 6, CLOSE);
        turnOf(two, 0, 4, CLOSE);
        is(two.turn(0), false);
        is(two.why(), 2);
        two.mend(0, 2, 0, 0, 5);
        is(two.turn(0), true);
        two.undo();
        two.mend(0, 2, 0, 0, 6);
        is(two.turn(0), true);
        two.mend(0, 2, 0, 0, 4);
        is(two.now(0, 11), 2);
        is(two.now(0, 12), 3);
        is(two.now(0, 13), N);
        is(two.now(0, 0), 2);
        two.mend(0, 1, 0, 1, NOTE);
        is(two.now(0, 11), 1);
        is(two.now(0, 12), 2);
        is(two.score(0, 2, 9), 0);
        is(two.score(0, 2, 10), 1);
    }

    private static void over() {
        BallBook x = game(6, 1);
        is(x.over(1, 0), false);
        is(x.why(), 0);
        is(x.over(0, 0), false);
        is(x.why(), 11);
        x.turn(0);
        is(x.over(0, 11), false);
        is(x.why(), 4);
        is(x.over(0, -1), false);
        is(x.why(), 4);
        is(x.over(0, 16), false);
        is(x.why(), 4);
        is(x.over(0, 10), true);
        is(x.why(), 0);
        is(x.over(0, 10), false);
        is(x.why(), 5);
        is(x.over(0, 0), true);
        is(x.over(0, 10), true);
        is(x.over(0, 0), true);
        is(x.over(0, 10), false);
        is(x.why(), 6);
        is(x.over(0, 1), true);
        is(x.over(0, 2), true);
        is(x.over(0, 3), false);
        is(x.why(), 3);
        is(x.over(0, 11), false);
        is(x.why(), 3);
        is(x.score(0, 0, 7), 5);
        is(x.score(0, 0, 2), 5);
        is(x.score(0, 0, 6), 0);
        BallBook fifth = game(5, 1);
        turnOf(fifth, 0);
        overOf(fifth, 1);
        is(fifth.over(0, 0), false);
        is(fifth.why(), 6);
        balls(fifth, CLOSE);
        is(fifth.over(0, 2), false);
        is(fifth.why(), 3);
    }

    private static void ball() {
        BallBook x = game(2, 1);
        is(x.ball(1, 0), false);
        is(x.why(), 0);
        is(x.ball(0, 0), false);
        is(x.why(), 11);
        x.turn(0);
        is(x.ball(0, 0), false);
        is(x.why(), 11);
        x.over(0, 0);
        int[] cannot = {7, 15, 21, 31, 39, 47, 52, 63, 72, 79, 96, 101, 128, 145, 159, 160, 255};
        for (int entry : cannot) {
            is(x.ball(0, entry), false);
            is(x.why(), 7);
        }
        is(x.ball(0, 256 + 6), true);
        is(x.entry(0, 0, 0, 0), 6);
        balls(x, 20, 38, 51, 71, 100, 0, 0);
        int[] behind = {0, 16, 32, 48, 64, 97};
        for (int entry : behind) {
            is(x.ball(0, entry), false);
            is(x.why(), 9);
        }
        balls(x, 80, 95);
        for (int k = 10; k < 40; k++) {
            is(x.ball(0, 127), true);
        }
        is(x.ball(0, NOTE), false);
        is(x.why(), 12);
        x.tear(0, 0, 0);
        is(x.ball(0, 0), false);
        is(x.why(), 11);
        overOf(x, 1, CLOSE);
        is(x.ball(0, NOTE), false);
        is(x.why(), 8);
        is(x.ball(0, 255), false);
        is(x.why(), 7);
    }

    private static void ballRain() {
        BallBook x = game(20, 1);
        turnOf(x, 0, 0, 0, 0);
        overOf(x, 1);
        is(x.score(0, 0, 8), 305);
        is(x.ball(0, 128 + 15), true);
        // TABLE(114, 0) is 291, TABLE(24, 0) is 65
        is(x.score(0, 0, 8), 305 - (291 - 65));
        is(x.score(0, 0, 5), 5);
        is(x.ball(0, 128 + 4), false);
        is(x.why(), 10);
        balls(x, 48, 49, 50);
        // TABLE(21, 3) is 52, TABLE(3, 3) is 7
        is(x.ball(0, 128 + 3), true);
        is(x.score(0, 0, 8), 305 - (291 - 65) - (52 - 7));
        is(x.now(0, 4), 3);
        BallBook two = game(20, 2);
        turnOf(two, 0);
        is(two.ball(0, 129), false);
        is(two.why(), 10);
    }

    private static void feed() {
        BallBook x = game(2, 1);
        turnOf(x, 0);
        is(x.feed(0x80FF0102, 3, 4, 5, -2), 20);
        is(x.open(0, 0, 0, 20), true);
        int[] due = {128, 255, 1, 2, 0, 0, 0, 3, 0, 0, 0, 4, 0, 0, 0, 5, 255, 255, 255, 254};
        for (int i = 0; i < 20; i++) {
            is(x.entry(0, 0, 0, i), due[i]);
        }
        is(x.list(2), 0);
        for (int k = 1; k <= 300; k++) {
            is(x.feed(k, 0, 0, 0, 0), 20 * k);
        }
        is(x.feed(1, 1, 1, 1, 1), N);
        is(x.list(2), 6000);
    }

    private static void open() {
        BallBook x = game(2, 1);
        turnOf(x, 0, 4);
        x.feed(0x01020304, 0x05040302, 0, 0, 0);
        is(x.open(1, 0, 0, 1), false);
        is(x.open(0, 1, 0, 1), false);
        is(x.open(0, 0, 1, 1), false);
        is(x.open(0, 0, -1, 1), false);
        is(x.open(0, 0, 0, -1), false);
        is(x.open(0, 0, 0, 21), false);
        is(x.list(2), 20);
        is(x.open(0, 0, 0, 3), true);
        is(x.list(2), 0);
        is(x.overs(0, 0, 0, 1), 3);
        is(x.score(0, 0, 0), 6);
        x.tear(0, 0, 0);
        is(x.open(0, 0, 0, 1), false);
        is(x.open(0, 0, 0, 0), true);
        is(x.overs(0, 0, 0, 1), 0);
        x.feed(0, 0, 0, 0, 0);
        x.feed(0, 0, 0, 0, 0);
        x.feed(0, 0, 0, 0, 0);
        is(x.open(0, 0, 0, 41), false);
        is(x.open(0, 0, 0, 40), true);
        is(x.now(0, 11), 9);
        is(x.now(0, 14), 6);
        is(x.undo(), 0);
        is(x.overs(0, 0, 0, 1), 0);
        is(x.list(2), 0);
    }

    private static void tear() {
        BallBook x = game(2, 1);
        turnOf(x, 0, 1, 4);
        is(x.tear(1, 0, 0), false);
        is(x.tear(0, 1, 0), false);
        is(x.tear(0, 0, 1), false);
        is(x.tear(0, 0, -1), false);
        is(x.tear(0, 0, 0), true);
        is(x.tear(0, 0, 0), false);
        is(x.overs(0, 0, 0, 1), N);
        is(x.overs(0, 0, 0, 5), 1);
        is(x.overs(0, 0, 0, 6), 1);
        is(x.score(0, 0, 0), 0);
        is(x.score(0, 0, 7), 1);
        is(x.now(0, 1), 1);
        is(x.now(0, 4), 6);
        is(x.fields(0, 0, 0, 0), 1);
        overOf(x, 1);
        is(x.tear(0, 0, 1), true);
        is(x.score(0, 0, 6), 2);
        is(x.now(0, 1), 0);
    }

    private static void put() {
        BallBook x = game(2, 1);
        turnOf(x, 0, 1, 2);
        is(x.put(1, 0, 0, 0, 0), false);
        is(x.put(0, 1, 0, 0, 0), false);
        is(x.put(0, 0, 1, 0, 0), false);
        is(x.put(0, 0, 0, 3, 0), false);
        is(x.put(0, 0, 0, -1, 0), false);
        is(x.put(0, 0, 0, 2, 3), true);
        is(x.put(0, 0, 0, 0, -1), true);
        is(x.put(0, 0, 0, 2, 256 + 5), true);
        int[] due = {255, 1, 5, 2, 3};
        for (int i = 0; i < 5; i++) {
            is(x.entry(0, 0, 0, i), due[i]);
        }
        for (int k = 5; k < 40; k++) {
            is(x.put(0, 0, 0, 1, NOTE), true);
        }
        is(x.put(0, 0, 0, 1, NOTE), false);
        is(x.entry(0, 0, 0, 39), 3);
        x.tear(0, 0, 0);
        is(x.put(0, 0, 0, 0, 1), false);
    }

    private static void mend() {
        BallBook x = game(2, 1);
        turnOf(x, 0, 1, 2);
        is(x.mend(1, 0, 0, 0, 0), N);
        is(x.mend(0, 1, 0, 0, 0), N);
        is(x.mend(0, 0, 1, 0, 0), N);
        is(x.mend(0, 0, 0, 2, 0), N);
        is(x.mend(0, 0, 0, -1, 0), N);
        is(x.mend(0, 0, 0, 0, 512 + 6), 1);
        is(x.mend(0, 0, 0, 0, -1), 6);
        is(x.entry(0, 0, 0, 0), 255);
        is(x.score(0, 0, 0), 0);
        is(x.mend(0, 0, 0, 0, 4), 255);
        is(x.score(0, 0, 0), 6);
        x.tear(0, 0, 0);
        is(x.mend(0, 0, 0, 0, 0), N);
    }

    private static void out() {
        BallBook x = game(2, 1);
        turnOf(x, 0, 1, 2, 3);
        is(x.out(1, 0, 0, 0), N);
        is(x.out(0, 1, 0, 0), N);
        is(x.out(0, 0, 1, 0), N);
        is(x.out(0, 0, 0, 3), N);
        is(x.out(0, 0, 0, -1), N);
        is(x.out(0, 0, 0, 1), 2);
        is(x.entry(0, 0, 0, 0), 1);
        is(x.entry(0, 0, 0, 1), 3);
        none(() -> x.entry(0, 0, 0, 2));
        is(x.out(0, 0, 0, 1), 3);
        is(x.out(0, 0, 0, 0), 1);
        is(x.out(0, 0, 0, 0), N);
        is(x.overs(0, 0, 0, 1), 0);
        x.tear(0, 0, 0);
        is(x.out(0, 0, 0, 0), N);
    }

    private static void bowls() {
        BallBook x = game(5, 1);
        turnOf(x, 3, 1);
        overOf(x, 4, 1);
        is(x.bowls(1, 0, 0, 0), N);
        is(x.bowls(0, 1, 0, 0), N);
        is(x.bowls(0, 0, 2, 0), N);
        is(x.bowls(0, 0, 1, 3), 4);
        is(x.now(0, 11), 5);
        is(x.overs(0, 0, 0, 6), 0);
        is(x.bowls(0, 0, 1, 16 + 2), 3);
        is(x.overs(0, 0, 1, 0), 2);
        is(x.now(0, 11), 0);
        is(x.bowls(0, 0, 0, -1), 3);
        is(x.overs(0, 0, 0, 0), 15);
        is(x.now(0, 11), 4);
        is(x.now(0, 13), 0);
        x.tear(0, 0, 0);
        is(x.bowls(0, 0, 0, 7), 15);
        is(x.now(0, 11), 0);
    }

    private static void undo() {
        BallBook x = game(2, 1);
        x.toss(1, 0, 2, 1);
        is(x.undo(), N);
        x.turn(1);
        x.turn(0);
        x.over(1, 0);
        x.ball(1, 5);
        long before = x.sum(1);
        x.put(1, 0, 0, 0, 48);
        x.mend(1, 0, 0, 1, 3);
        x.out(1, 0, 0, 0);
        x.bowls(1, 0, 0, 9);
        x.tear(1, 0, 0);
        x.feed(1, 2, 3, 4, 5);
        x.open(1, 0, 0, 9);
        is(x.list(3), 10);
        x.seat(0, 0, 0, 5);
        for (int k = 0; k < 6; k++) {
            is(x.undo(), 1);
        }
        is(x.sum(1), before);
        is(x.list(3), 4);
        is(x.undo(), 1);
        is(x.overs(1, 0, 0, 1), 0);
        is(x.undo(), 1);
        is(x.score(1, 0, 10), 0);
        is(x.undo(), 0);
        none(() -> x.score(0, 0, 0));
        is(x.undo(), 1);
        is(x.undo(), N);
        turnOf(x, 0);
        for (int k = 0; k < 39; k++) {
            x.bowls(0, 0, 0, k % 3);
        }
        is(x.list(3), 40);
        x.ball(0, 6);
        is(x.list(3), 40);
        for (int k = 0; k < 40; k++) {
            is(x.undo(), 0);
        }
        is(x.undo(), N);
        is(x.score(0, 0, 10), 1);
        is(x.mend(0, 0, 0, 0, 1), N);
        is(x.list(3), 0);
    }

    private static void why() {
        BallBook x = game(2, 1);
        is(x.why(), 0);
        x.over(0, 0);
        is(x.why(), 11);
        x.mend(0, 0, 0, 0, 0);
        is(x.why(), 11);
        x.turn(7);
        is(x.why(), 0);
        x.over(0, 0);
        x.turn(0);
        is(x.why(), 0);
        x.over(0, 99);
        is(x.why(), 4);
        x.over(0, 1);
        is(x.why(), 0);
        x.ball(0, 200);
        is(x.why(), 7);
        x.undo();
        is(x.why(), 7);
        x.over(0, 1);
        x.put(0, 0, 0, 0, 200);
        x.ball(0, 0);
        is(x.why(), 7);
        x.bowls(0, 0, 0, 11);
        x.over(0, 1);
        is(x.why(), 4);
        x.turn(0);
        is(x.why(), 4);
    }

    private static void now() {
        BallBook x = game(3, 1);
        int[] first = {N, N, N, N, N, N, N, N, N, N, 0, 0, N, N, N};
        for (int what = 0; what < 15; what++) {
            is(x.now(0, what), first[what]);
        }
        none(() -> x.now(0, 15));
        none(() -> x.now(0, -1));
        none(() -> x.now(1, 0));
        none(() -> x.now(-1, 0));
        turnOf(x, 4, 1, 17, 18, 34, 33, 98, 97);
        int[] then = {0, 0, 1, 4, 15, 0, N, N, N, 104, 0, 0, N, N, N};
        for (int what = 0; what < 15; what++) {
            is(x.now(0, what), then[what]);
        }
        overOf(x, 5);
        is(x.now(0, 1), 1);
        is(x.now(0, 4), 12);
        is(x.now(0, 3), 5);
        x.put(0, 0, 0, 1, 145);
        is(x.now(0, 11), 7);
        is(x.now(0, 12), 0);
        is(x.now(0, 13), 0);
        is(x.now(0, 14), 1);
        is(x.now(0, 3), 4);
        is(x.now(0, 4), 17);
    }

    private static void nowChase() {
        BallBook x = game(1, 1);
        turnOf(x, 0, 6, 6, 6, 6, 6, 4);
        is(x.now(0, 6), N);
        turnOf(x, 0, 6, 6, 6, 6);
        is(x.now(0, 6), 35);
        is(x.now(0, 7), 11);
        is(x.now(0, 8), 1);
        is(x.now(0, 9), 36);
        balls(x, 4);
        is(x.now(0, 7), 7);
        is(x.now(0, 8), 0);
        is(x.now(0, 9), 34);
        balls(x, 37);
        is(x.now(0, 7), 1);
        is(x.now(0, 8), 1);
        balls(x, CLOSE);
        is(x.now(0, 7), 1);
        is(x.now(0, 8), 0);
        is(x.now(0, 9), 34);
        is(x.now(0, 10), 3);
        x.undo();
        balls(x, 16);
        is(x.now(0, 7), 0);
        is(x.now(0, 8), 1);
        is(x.now(0, 5), 4);
        is(x.now(0, 10), 2);
        is(x.now(0, 9), 35);
        is(x.now(0, 4), 1);
    }

    private static void nowTarget() {
        BallBook x = game(10, 1);
        turnOf(x, 0, 6, 6, 6, 6, 6, 6);
        overOf(x, 1, 0, 0, 0, 0, 0, 0, 128 + 8);
        // 159 - TABLE(48, 0) = 159 - 128
        is(x.score(0, 0, 8), 31);
        turnOf(x, 0, 4);
        is(x.score(0, 1, 5), 2);
        is(x.score(0, 1, 8), 33);
        is(x.now(0, 6), 37);
        x.mend(0, 0, 1, 6, 128 + 6);
        // 159 - (128 - TABLE(12, 0)) = 64; TURN 1 has TABLE(24, 0) = 65
        is(x.now(0, 11), 1);
        x.put(0, 0, 1, 7, CLOSE);
        is(x.score(0, 0, 8), 64);
        is(x.score(0, 1, 8), 65);
        is(x.now(0, 6), 37);
        balls(x, 128 + 3);
        // TABLE(23, 0) = 62, TABLE(5, 0) = 13: 65 - 49 = 16, 36 * 16 / 64 = 9
        is(x.score(0, 1, 8), 16);
        is(x.now(0, 6), 10);
        is(x.now(0, 7), 6);
        x.undo();
        balls(x, 6);
        is(x.now(0, 10), 0);
        balls(x, 128 + 3);
        // TABLE(22, 0) = 60, TABLE(4, 0) = 11: 65 - 49 = 16
        is(x.now(0, 6), 10);
        is(x.now(0, 10), 2);
        is(x.now(0, 5), 4);
        BallBook more = game(40, 1);
        turnOf(more, 0, 0, 0, 0, 0, 0, 0);
        for (int k = 1; k < 20; k++) {
            overOf(more, k % 8, 0, 0, 0, 0, 0, 0);
        }
        balls(more, 128 + 15, 128 + 5);
        more.turn(0);
        // 555 - TABLE(120, 0) = 250; TABLE(120, 0) = 305: 200 * 55 / 1000 = 11
        is(more.score(0, 0, 8), 250);
        is(more.score(0, 1, 8), 305);
        is(more.now(0, 6), 12);
    }

    private static void winners() {
        BallBook x = game(1, 1);
        turnOf(x, 0, 3, CLOSE);
        turnOf(x, 0, 2, CLOSE);
        is(x.now(0, 10), 1);
        x.mend(0, 1, 0, 0, 3);
        is(x.now(0, 10), 3);
        x.mend(0, 1, 0, 0, 4);
        is(x.now(0, 10), 2);
        is(x.now(0, 11), 8);
        is(x.now(0, 14), 1);
        BallBook two = game(1, 2);
        turnOf(two, 0, 3, CLOSE);
        turnOf(two, 0, 2, CLOSE);
        turnOf(two, 0, 1, CLOSE);
        is(two.now(0, 6), N);
        two.turn(0);
        is(two.now(0, 6), 3);
        is(two.now(0, 7), 3);
        overOf(two, 0, 2, CLOSE);
        is(two.now(0, 10), 3);
        two.mend(0, 3, 0, 0, 1);
        is(two.now(0, 10), 1);
        two.mend(0, 3, 0, 0, 5);
        is(two.now(0, 10), 2);
        is(two.score(0, 3, 6), 4);
        is(two.now(0, 7), 0);
    }

    private static void howTurnsEnd() {
        BallBook x = game(2, 1);
        turnOf(x, 0, 48, 48, 48, 48, 48, 48);
        overOf(x, 1, 48, 48, 48, 0, 0, 48);
        is(x.score(0, 0, 6), 1);
        is(x.score(0, 0, 2), 2);
        // 10 leaves as the tenth; 7 is left, and faces behind the over
        is(x.now(0, 1), 7);
        is(x.now(0, 2), N);
        is(x.now(0, 4), 0);
        x.out(0, 0, 1, 5);
        balls(x, 0);
        is(x.score(0, 0, 6), 2);
        turnOf(x, 0, 0);
        balls(x, CLOSE);
        is(x.score(0, 1, 6), 3);
        is(x.now(0, 10), 3);
        BallBook won = game(1, 1);
        turnOf(won, 0, CLOSE);
        turnOf(won, 0, 0, 0, 0, 0, 0, 1);
        is(won.score(0, 1, 6), 4);
        is(won.score(0, 1, 2), 1);
        BallBook byRunOut = game(2, 1);
        turnOf(byRunOut, 0, CLOSE);
        turnOf(byRunOut, 0, 48, 48, 48, 48, 48, 48);
        overOf(byRunOut, 1, 48, 48, 48, 66);
        is(byRunOut.score(0, 1, 6), 4);
        is(byRunOut.score(0, 1, 1), 10);
    }

    private static void score() {
        BallBook x = game(6, 1);
        none(() -> x.score(0, 0, 0));
        x.turn(0);
        none(() -> x.score(1, 0, 0));
        none(() -> x.score(0, 1, 0));
        none(() -> x.score(0, -1, 0));
        none(() -> x.score(0, 0, 16));
        none(() -> x.score(0, 0, -1));
        int[] first = {0, 0, 0, 0, 0, 6, 0, 0, 97, 1, 0, 0, 0, 0, 0, 0};
        for (int what = 0; what < 16; what++) {
            is(x.score(0, 0, what), first[what]);
        }
        overOf(x, 0, 4, 20, 38, 50, 71, 100);
        x.over(0, 1);
        x.tear(0, 0, 1);
        overOf(x, 2, 1, 65, 80);
        // 4 + 5 + 7 + 0 + 3 + 4, then 1
        int[] then = {24, 3, 2, 2, 10, 6, 0, 2, 97, 1, 3, 24, 24, 24, 1, 2};
        for (int what = 0; what < 16; what++) {
            is(x.score(0, 0, what), then[what]);
        }
        x.mend(0, 0, 0, 0, 7);
        int[] none = {0, 0, 0, 0, 0, 6, 0, 0, 97, 1, 3, 0, 0, 0, 0, 0};
        for (int what = 0; what < 16; what++) {
            is(x.score(0, 0, what), none[what]);
        }
    }

    private static void overs() {
        BallBook x = game(6, 1);
        turnOf(x, 7, 4, 20, 38, 50, 71, 100);
        overOf(x, 8, 0, 0, 0, 0, 0, 0, NOTE);
        overOf(x, 9, 3);
        none(() -> x.overs(1, 0, 0, 0));
        none(() -> x.overs(0, 1, 0, 0));
        none(() -> x.overs(0, 0, 3, 0));
        none(() -> x.overs(0, 0, -1, 0));
        none(() -> x.overs(0, 0, 0, 8));
        none(() -> x.overs(0, 0, 0, -1));
        int[][] due = {{7, 6, 23, 2, 4, 1, 1, 1}, {8, 7, 0, 0, 6, 1, 0, 1}, {9, 1, 3, 0, 1, 0, 0, 1}};
        for (int o = 0; o < 3; o++) {
            for (int what = 0; what < 8; what++) {
                is(x.overs(0, 0, o, what), due[o][what]);
            }
        }
        x.put(0, 0, 1, 1, 255);
        int[][] then = {{7, 6, 23, 2, 4, 1, 1, 1}, {8, 8, 0, 0, 1, 0, 0, 1}, {9, 1, 0, 0, 0, 0, 0, 0}};
        for (int o = 0; o < 3; o++) {
            for (int what = 0; what < 8; what++) {
                is(x.overs(0, 0, o, what), then[o][what]);
            }
        }
        x.tear(0, 0, 2);
        is(x.overs(0, 0, 2, 1), N);
        is(x.overs(0, 0, 2, 5), 0);
    }

    private static void entry() {
        BallBook x = game(6, 1);
        turnOf(x, 7, 4, 95);
        is(x.entry(0, 0, 0, 0), 4);
        is(x.entry(0, 0, 0, 1), 95);
        none(() -> x.entry(0, 0, 0, 2));
        none(() -> x.entry(0, 0, 0, -1));
        none(() -> x.entry(0, 0, 1, 0));
        none(() -> x.entry(0, 1, 0, 0));
        none(() -> x.entry(1, 0, 0, 0));
        x.tear(0, 0, 0);
        none(() -> x.entry(0, 0, 0, 0));
    }

    private static void bats() {
        BallBook x = game(6, 1);
        x.seat(0, 0, 2, 9);
        none(() -> x.bats(0, 0, 0, 0));
        turnOf(x, 0, 4, 17, 35, 51, 80);
        overOf(x, 1, 97, 71, 2);
        none(() -> x.bats(1, 0, 0, 0));
        none(() -> x.bats(0, 1, 0, 0));
        none(() -> x.bats(0, 0, 11, 0));
        none(() -> x.bats(0, 0, -1, 0));
        none(() -> x.bats(0, 0, 0, 4));
        none(() -> x.bats(0, 0, 0, -1));
        // 0 hits 4, a wide brings 1, whose foul of 3 brings 0, who is stumped; 2 faces, and 1 behind the over;
        // a bye brings 2, who runs 3: 1 faces then, and 2, the other one, is out; 3 comes there, 1 hits 2
        int[][] due = {{4, 2, 5, 0}, {5, 3, 1, 1}, {3, 1, 6, 9}, {0, 0, 1, 3}, {0, 0, 0, 4}};
        for (int seat = 0; seat < 5; seat++) {
            for (int what = 0; what < 4; what++) {
                is(x.bats(0, 0, seat, what), due[seat][what]);
            }
        }
        is(x.bats(0, 0, 9, 3), 2);
    }

    private static void fields() {
        BallBook x = game(6, 1);
        x.seat(0, 1, 10, 11);
        none(() -> x.fields(0, 0, 0, 0));
        turnOf(x, 10, 4, 18, 35, 51, 66, 98);
        overOf(x, 1, 48, 49);
        overOf(x, 10);
        none(() -> x.fields(1, 0, 0, 0));
        none(() -> x.fields(0, 1, 0, 0));
        none(() -> x.fields(0, 0, 11, 0));
        none(() -> x.fields(0, 0, -1, 0));
        none(() -> x.fields(0, 0, 0, 4));
        none(() -> x.fields(0, 0, 0, -1));
        int[] due = {2, 10, 1, 11};
        int[] one = {1, 0, 2, 1};
        for (int what = 0; what < 4; what++) {
            is(x.fields(0, 0, 10, what), due[what]);
            is(x.fields(0, 0, 1, what), one[what]);
        }
        balls(x, CLOSE);
        x.turn(0);
        is(x.fields(0, 1, 10, 3), 10);
        is(x.bats(0, 1, 10, 3), 11);
    }

    private static void record() {
        BallBook x = new BallBook();
        none(() -> x.record(4, 0));
        none(() -> x.record(-1, 0));
        none(() -> x.record(0, 6));
        none(() -> x.record(0, -1));
        for (int sort = 0; sort < 4; sort++) {
            recordIs(x, sort, N, N, N, N, N, N);
        }
        x.side(11);
        x.side(12);
        recordIs(x, 3, 0, N, N, 0, 0, 0);
        x.toss(0, 1, 5, 1);
        x.toss(1, 0, 5, 1);
        x.seat(1, 0, 0, 11);
        recordIs(x, 0, N, N, N, N, N, N);
        turnOf(x, 3);
        x.undo();
        recordIs(x, 0, 0, 0, 0, 0, 0, 0);
        recordIs(x, 1, N, N, N, N, N, N);
        recordIs(x, 2, 0, 0, 0, 0, N, 0);
        overOf(x, 3, 4, 4, 48, 0, 0, 0);
        overOf(x, 2, 4, 49, CLOSE);
        turnOf(x, 5, 4, 4);
        x.turn(1);
        x.over(1, 6);
        x.ball(1, 48);
        x.ball(1, 4);
        x.ball(1, 20);
        x.ball(1, 0);
        x.ball(1, 4);
        // game 0: 0 made 8, 1 made 4; SEATS 3 and 2 took one out for 8 and 4; 12, then 8 runs
        // game 1: SIDE 1's seat 0 (player 11) made 0, seat 2 made 8; SIDE 0's 6 took one out for 9
        recordIs(x, 0, 8, 0, 0, 0, 0, 0);
        recordIs(x, 1, 1, 0, 0, 1, 2, 4);
        recordIs(x, 2, 13, 1, 0, 1, N, 0);
        recordIs(x, 3, 8, N, N, 0, 0, 0);
        x.ball(0, 4);
        recordIs(x, 0, 12, 0, 1, 1, 0, 0);
        recordIs(x, 3, 12, N, N, 1, 0, 0);
        x.ball(1, 64);
        x.over(1, 1);
        x.ball(1, 48);
        recordIs(x, 1, 1, 1, 0, 0, 1, 0);
        x.ball(1, 48);
        recordIs(x, 1, 2, 1, 0, 0, 1, 0);
        x.mend(0, 0, 0, 0, 7);
        recordIs(x, 0, 8, 1, 0, 1, 2, 0);
        x.undo();
        recordIs(x, 0, 12, 0, 1, 1, 0, 0);
    }

    private static void recordOfLaterTurns() {
        BallBook x = game(5, 2);
        x.seat(0, 0, 0, 7);
        x.seat(0, 1, 4, 11);
        turnOf(x, 3, 1, CLOSE);
        turnOf(x, 3, 2, CLOSE);
        turnOf(x, 4, 6, 6, 49);
        recordIs(x, 0, 12, 0, 2, 0, 7, 0);
        recordIs(x, 1, 1, 0, 2, 1, 11, 12);
        recordIs(x, 2, 12, 0, 2, 0, N, 0);
        recordIs(x, 3, 13, N, N, 0, 7, 0);
        int[] bytes = imageOf(x, 0);
        feedBytes(x, bytes);
        is(x.take(bytes.length), 1);
        recordIs(x, 0, 12, 0, 2, 0, 7, 0);
        recordIs(x, 3, 26, N, N, 0, 7, 0);
        x.side(11);
        x.toss(2, 0, 1, 1);
        x.turn(2);
        recordIs(x, 3, 26, N, N, 0, 7, 0);
    }

    private static void image() {
        BallBook x = game(5, 1);
        x.seat(0, 1, 0, 11);
        is(x.image(1), N);
        is(x.image(-1), N);
        turnOf(x, 3, 4, 20);
        overOf(x, 4);
        x.tear(0, 0, 1);
        x.over(0, 5);
        for (int k = 0; k < 36; k++) {
            x.ball(0, 38);
        }
        balls(x, 38, 38, 38, CLOSE);
        x.turn(0);
        int[] got = imageOf(x, 0);
        is(got.length, 28 + 1 + 4 + 2 + 42 + 2 + 3);
        int[] head = {66, 0, 1, 5, 1, 0, 1, 2, 3, 4, 5, 6, 7, 8, 9, 10, 11, 1, 2, 3, 4, 5, 6, 7, 8, 9, 10, 2, 3, 3, 3, 4, 20, 4, 0, 5, 41, 38};
        for (int k = 0; k < head.length; k++) {
            is(got[k], head[k]);
        }
        // 4 + 5 + 39 * 7 = 282
        is(got[77], 1);
        is(got[78], 26);
        is(got[79], 0);
        is(got[81], 0);
        is(checked(x, got), 0);
        is(checked(x, with(got, 77, 0)), 78);
        is(checked(x, with(got, 78, 27)), 79);
        is(checked(x, with(with(got, 77, 2), 78, 27)), 78);
        is(x.image(9), N);
        is(x.list(4), 82);
    }

    private static void told() {
        BallBook x = game(5, 1);
        none(() -> x.told(0));
        x.image(0);
        is(x.told(0), 66);
        is(x.told(27), 0);
        none(() -> x.told(28));
        none(() -> x.told(-1));
    }

    private static int[] rightImage(BallBook x) {
        turnOf(x, 3, 4, 20, CLOSE);
        turnOf(x, 2);
        x.tear(0, 1, 0);
        overOf(x, 1, 6);
        return imageOf(x, 0);
    }

    private static void check() {
        BallBook x = game(5, 1);
        is(x.check(-1), -1);
        is(x.check(1), -1);
        is(x.check(0), 1);
        int[] right = rightImage(x);
        is(right.length, 28 + 1 + 5 + 2 + 1 + 2 + 3 + 2);
        feedBytes(x, right);
        is(x.check(61), -1);
        is(x.list(2), 60);
        is(x.check(right.length), 0);
        is(x.list(2), 0);
        is(x.list(1), 1);
        for (int n = 0; n < right.length; n++) {
            is(checked(x, cut(right, n)), n + 1);
        }
        is(checked(x, cut(right, right.length + 1)), right.length + 1);
        is(checked(x, with(right, 0, 65)), 1);
        is(checked(x, with(right, 1, 2)), 2);
        is(checked(x, with(right, 1, 1)), 3);
        is(checked(x, with(right, 2, 0)), 3);
        is(checked(x, with(right, 2, 2)), 3);
        is(checked(x, with(right, 3, 0)), 4);
        is(checked(x, with(right, 3, 121)), 4);
        is(checked(x, with(right, 4, 0)), 5);
        is(checked(x, with(right, 4, 3)), 5);
        is(checked(x, with(right, 5, 11)), 6);
        is(checked(x, with(right, 5, 10)), 16);
        is(checked(x, with(right, 16, 12)), 17);
        is(checked(x, with(right, 16, 11)), 0);
        is(checked(x, with(right, 26, 0)), 27);
        is(checked(x, with(right, 27, 3)), 28);
        is(checked(x, with(right, 28, 131)), 29);
        is(checked(x, with(right, 29, 16)), 30);
        is(checked(x, with(right, 30, 42)), 31);
        is(checked(x, with(with(right, 0, 65), 5, 11)), 1);
        int[] two = with(right, 4, 2);
        is(checked(x, with(two, 27, 5)), 28);
        is(checked(x, with(two, 27, 4)), right.length + 1);
    }

    private static void checkByPlay() {
        BallBook x = game(5, 1);
        int[] right = rightImage(x);
        // 28 overs, 29 bowler, 30 size, 31 to 33 entries, 34 and 35 score, 36 overs, 37 bowler, 38 size (none), 39 bowler, 40 size, 41 entry, 42 and 43 score
        is(right[36], 2);
        is(checked(x, with(right, 33, NOTE)), 37);
        is(checked(x, with(right, 29, 11)), 30);
        is(checked(x, with(right, 29, 15)), 30);
        is(checked(x, with(with(right, 29, 15), 39, 16)), 40);
        is(checked(x, with(right, 32, 21)), 33);
        is(checked(x, with(right, 31, CLOSE)), 33);
        is(checked(x, with(right, 39, 2)), 40);
        is(checked(x, with(right, 41, 7)), 42);
        is(checked(x, with(right, 34, 1)), 35);
        is(checked(x, with(right, 35, 8)), 36);
        is(checked(x, with(right, 42, 9)), 43);
        is(checked(x, with(right, 43, 9)), 44);
        is(checked(x, with(with(right, 35, 8), 41, 7)), 42);
        is(checked(x, with(with(right, 41, 7), 39, 16)), 40);
        is(checked(x, with(right, 31, 6)), 36);
    }

    private static void take() {
        BallBook x = game(5, 1);
        int[] right = rightImage(x);
        is(x.take(-1), N);
        is(x.take(1), N);
        is(x.take(0), -2);
        feedBytes(x, with(right, 16, 11));
        is(x.take(right.length), 1);
        is(x.list(1), 2);
        is(x.list(2), 0);
        is(x.fields(1, 0, 0, 3), 11);
        is(x.now(1, 7), x.now(0, 7));
        is(x.score(1, 1, 7), 1);
        feedBytes(x, right);
        is(x.take(right.length), 2);
        is(x.sum(2), x.sum(0));
        is(x.ball(2, 4), true);
        is(x.undo(), 2);
        is(x.score(2, 1, 0), 6);
        feedBytes(x, with(right, 41, 7));
        is(x.take(right.length), -2 - 41);
        feedBytes(x, right);
        is(x.take(20), -2 - 20);
        is(x.list(1), 3);
        is(x.list(2), 0);
        for (int k = 3; k < 400; k++) {
            x.toss(0, 1, 1, 1);
        }
        feedBytes(x, right);
        is(x.take(right.length), N);
        is(x.list(2), 60);
        is(x.check(right.length), 0);
    }

    private static void list() {
        BallBook x = game(5, 1);
        turnOf(x, 0, 1);
        x.feed(0, 0, 0, 0, 0);
        x.image(0);
        int[] due = {2, 1, 20, 3, 28 + 1 + 3 + 2, 11, 12};
        for (int what = 0; what < 7; what++) {
            is(x.list(what), due[what]);
        }
        none(() -> x.list(7));
        none(() -> x.list(-1));
        none(() -> x.list(Integer.MIN_VALUE));
        none(() -> x.list(Integer.MAX_VALUE));
    }

    private static void sum() {
        BallBook x = game(5, 2);
        none(() -> x.sum(1));
        none(() -> x.sum(-1));
        is(x.sum(0), sumByHand(x));
        turnOf(x, 0, 1, 36, 48, CLOSE);
        turnOf(x, 3, 2);
        is(x.sum(0), sumByHand(x));
    }

    private static long sumByHand(BallBook x) {
        long n = 0;
        for (int what = 0; what < 15; what++) {
            n = 31 * n + x.now(0, what);
        }
        for (int turn = 0; turn <= x.now(0, 0); turn++) {
            for (int what = 0; what < 16; what++) {
                n = 31 * n + x.score(0, turn, what);
            }
            for (int k = 0; k < 11 * 8; k++) {
                n = 31 * n + (k % 8 < 4 ? x.bats(0, turn, k / 8, k % 8) : x.fields(0, turn, k / 8, k % 8 - 4));
            }
        }
        return n;
    }
}

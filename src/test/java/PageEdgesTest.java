/** Promises 1 to 17, the calls that change something: a test for each sentence that names a boundary case. */
public final class PageEdgesTest extends BookTest {
    /** Numbers that no row of the document reaches. */
    private static final int[] NOWHERE = {LEAST, -1, MOST};

    public static void main(String[] args) {
        newObject();
        side();
        player();
        toss();
        seat();
        turn();
        over();
        ball();
        feed();
        open();
        tear();
        put();
        mend();
        out();
        bowls();
        undo();
        undoEachKind();
        why();
        end();
    }

    private static void newObject() {
        test("promise 1, BallBook(): no SIDES", () -> {
            BallBook x = new BallBook();
            is(x.list(0), 0);
            none(() -> x.list(5));
            is(x.player(0), N);
            is(x.toss(0, 1, 1, 1), N);
            is(x.side(11), 0);
        });
        test("promise 1, BallBook(): no GAMES", () -> {
            BallBook x = new BallBook();
            is(x.list(1), 0);
            refusedBy(x, x.turn(0), 0);
            none(() -> x.now(0, 0));
            none(() -> x.sum(0));
            is(x.image(0), N);
        });
        test("promise 1, BallBook(): the tape, OUT and the changes are empty", () -> {
            BallBook x = new BallBook();
            is(x.list(2), 0);
            is(x.list(3), 0);
            is(x.list(4), 0);
            is(x.undo(), N);
            none(() -> x.told(0));
        });
        test("promise 1, the constants: NONE is -1", () -> is(BallBook.NONE, -1));
        test("promise 1, BallBook(): one object knows nothing of another one", () -> {
            BallBook one = game(2, 1);
            turnOf(one, 0, 4);
            is(new BallBook().list(0), 0);
            is(game(2, 1).now(0, 0), N);
        });
    }

    private static void side() {
        test("promise 2, side: fewer than 11 PLAYERS are another number", () -> {
            BallBook x = new BallBook();
            is(x.side(10), N);
            is(x.side(0), N);
            is(x.side(-11), N);
            is(x.side(LEAST), N);
            is(x.list(0), 0);
        });
        test("promise 2, side: more than 30 PLAYERS are another number", () -> {
            BallBook x = new BallBook();
            is(x.side(31), N);
            is(x.side(MOST), N);
            is(x.list(0), 0);
        });
        test("promise 2, side: 11 and 30 are the edges", () -> {
            BallBook x = new BallBook();
            is(x.side(11), 0);
            is(x.side(30), 1);
            is(x.list(5), 11);
            is(x.list(6), 30);
        });
        test("promise 2, side: a refused one takes no number", () -> {
            BallBook x = new BallBook();
            is(x.side(11), 0);
            is(x.side(10), N);
            is(x.side(12), 1);
        });
        test("promise 2, side: the 60th is made, the 61st is not", () -> {
            BallBook x = new BallBook();
            for (int k = 0; k < 59; k++) {
                x.side(11);
            }
            is(x.side(13), 59);
            is(x.side(11), N);
            is(x.list(0), 60);
            is(x.list(64), 13);
            is(x.toss(59, 58, 1, 1), 0);
        });
    }

    private static void player() {
        test("promise 3, player: there is no such SIDE", () -> {
            BallBook x = game(1, 1);
            is(x.player(2), N);
            for (int side : NOWHERE) {
                is(x.player(side), N);
            }
            is(x.list(5), 11);
            is(x.list(6), 12);
        });
        test("promise 3, player: the 30th comes, the 31st does not", () -> {
            BallBook x = new BallBook();
            x.side(29);
            is(x.player(0), 29);
            is(x.player(0), N);
            is(x.list(5), 30);
        });
        test("promise 3, player: a SIDE of 30 is full from the beginning", () -> {
            BallBook x = new BallBook();
            x.side(30);
            is(x.player(0), N);
            is(x.list(5), 30);
        });
        test("promise 3, player: a GAME that stands can seat the new one", () -> {
            BallBook x = game(1, 1);
            is(x.seat(0, 0, 0, 11), false);
            is(x.player(0), 11);
            is(x.seat(0, 0, 0, 11), true);
        });
        test("promise 3, player: the last of 60 SIDES", () -> {
            BallBook x = new BallBook();
            for (int k = 0; k < 60; k++) {
                x.side(11);
            }
            is(x.player(59), 11);
            is(x.player(60), N);
        });
    }

    private static void toss() {
        test("promise 4, toss: no such SIDES", () -> {
            BallBook x = game(1, 1);
            is(x.toss(2, 0, 1, 1), N);
            is(x.toss(0, 2, 1, 1), N);
            for (int side : NOWHERE) {
                is(x.toss(side, 0, 1, 1), N);
                is(x.toss(0, side, 1, 1), N);
            }
            is(x.list(1), 1);
        });
        test("promise 4, toss: both are one", () -> {
            BallBook x = game(1, 1);
            is(x.toss(0, 0, 1, 1), N);
            is(x.toss(1, 1, 1, 1), N);
            is(x.toss(1, 0, 1, 1), 1);
        });
        test("promise 4, toss: overs below 1", () -> {
            BallBook x = game(1, 1);
            is(x.toss(0, 1, 0, 1), N);
            is(x.toss(0, 1, LEAST, 1), N);
            is(x.toss(0, 1, 1, 1), 1);
        });
        test("promise 4, toss: overs above 120", () -> {
            BallBook x = game(1, 1);
            is(x.toss(0, 1, 121, 1), N);
            is(x.toss(0, 1, MOST, 1), N);
            is(x.toss(0, 1, 120, 1), 1);
        });
        test("promise 4, toss: turns not 1, 2", () -> {
            BallBook x = game(1, 1);
            is(x.toss(0, 1, 1, 0), N);
            is(x.toss(0, 1, 1, 3), N);
            is(x.toss(0, 1, 1, LEAST), N);
            is(x.toss(0, 1, 1, MOST), N);
            is(x.toss(0, 1, 1, 2), 1);
        });
        test("promise 4, toss: the 400th is made, the 401st is not", () -> {
            BallBook x = game(1, 1);
            for (int k = 1; k < 399; k++) {
                x.toss(0, 1, 1, 1);
            }
            is(x.toss(1, 0, 7, 1), 399);
            is(x.toss(0, 1, 1, 1), N);
            is(x.list(1), 400);
            is(x.turn(399), true);
            is(x.score(399, 0, 5), 7);
        });
        test("promise 4, toss; terms 1: PLAYERS 0 .. 10 of its SIDE have the SEATS at first", () -> {
            BallBook x = game(1, 1);
            x.turn(0);
            for (int seat = 0; seat < 11; seat++) {
                is(x.bats(0, 0, seat, 3), seat);
                is(x.fields(0, 0, seat, 3), seat);
            }
        });
    }

    private static void seatsAre(BallBook x, int side, int... players) {
        x.image(0);
        for (int seat = 0; seat < 11; seat++) {
            is(x.told(5 + 11 * side + seat), players[seat]);
        }
    }

    private static void seat() {
        int[] first = {0, 1, 2, 3, 4, 5, 6, 7, 8, 9, 10};
        test("promise 5, seat: no such GAME", () -> {
            BallBook x = game(1, 1);
            is(x.seat(1, 0, 0, 1), false);
            for (int game : NOWHERE) {
                is(x.seat(game, 0, 0, 1), false);
            }
            seatsAre(x, 0, first);
        });
        test("promise 5, seat: no such side", () -> {
            BallBook x = game(1, 1);
            is(x.seat(0, 2, 0, 1), false);
            for (int side : NOWHERE) {
                is(x.seat(0, side, 0, 1), false);
            }
            seatsAre(x, 0, first);
            seatsAre(x, 1, first);
        });
        test("promise 5, seat: no such SEAT", () -> {
            BallBook x = game(1, 1);
            is(x.seat(0, 0, 11, 1), false);
            for (int seat : NOWHERE) {
                is(x.seat(0, 0, seat, 1), false);
            }
            seatsAre(x, 0, first);
        });
        test("promise 5, seat: no such PLAYER of that SIDE", () -> {
            BallBook x = game(1, 1);
            is(x.seat(0, 0, 0, 11), false);
            is(x.seat(0, 1, 0, 12), false);
            for (int player : NOWHERE) {
                is(x.seat(0, 0, 0, player), false);
            }
            seatsAre(x, 0, first);
            seatsAre(x, 1, first);
        });
        test("promise 5, seat: the last SEAT and the last PLAYER", () -> {
            BallBook x = game(1, 1);
            is(x.seat(0, 1, 10, 11), true);
            seatsAre(x, 1, 0, 1, 2, 3, 4, 5, 6, 7, 8, 9, 11);
            seatsAre(x, 0, first);
        });
        test("promise 5, seat: who has another SEAT exchanges", () -> {
            BallBook x = game(1, 1);
            is(x.seat(0, 0, 0, 10), true);
            seatsAre(x, 0, 10, 1, 2, 3, 4, 5, 6, 7, 8, 9, 0);
        });
        test("promise 5, seat: PLAYER 0 exchanges SEAT 0, too", () -> {
            BallBook x = game(1, 1);
            is(x.seat(0, 1, 6, 0), true);
            seatsAre(x, 1, 6, 1, 2, 3, 4, 5, 0, 7, 8, 9, 10);
            seatsAre(x, 0, first);
        });
        test("promise 5, seat: who has that SEAT keeps it", () -> {
            BallBook x = game(1, 1);
            is(x.seat(0, 0, 4, 4), true);
            seatsAre(x, 0, first);
        });
        test("promise 5, seat: a PLAYER without a SEAT only takes one, and who had it can come back", () -> {
            BallBook x = game(1, 1);
            is(x.seat(0, 1, 3, 11), true);
            is(x.seat(0, 1, 5, 3), true);
            seatsAre(x, 1, 0, 1, 2, 11, 4, 3, 6, 7, 8, 9, 10);
        });
        test("promise 5, seat: its PAGE has a TURN", () -> {
            BallBook x = game(1, 1);
            x.toss(0, 1, 1, 1);
            x.turn(0);
            is(x.seat(0, 0, 0, 1), false);
            is(x.seat(0, 1, 0, 1), false);
            is(x.seat(1, 0, 0, 1), true);
            seatsAre(x, 0, first);
            x.undo();
            is(x.seat(0, 0, 0, 1), true);
        });
    }

    private static void turn() {
        test("promise 6, turn: no such GAME", () -> {
            BallBook x = game(1, 1);
            refusedBy(x, x.turn(1), 0);
            for (int game : NOWHERE) {
                refusedBy(x, x.turn(game), 0);
            }
            is(x.list(3), 0);
        });
        test("promise 6, turn: begins without OVERS", () -> {
            BallBook x = game(1, 1);
            is(x.turn(0), true);
            is(x.why(), 0);
            scoreIs(x, 0, 10, 0);
            none(() -> x.overs(0, 0, 0, 0));
        });
        test("promise 6, turn: rule 1, the one ahead has not ended", () -> {
            BallBook x = game(1, 1);
            x.turn(0);
            refusedBy(x, x.turn(0), 1);
            overOf(x, 0, 0, 0, 0, 0, 0);
            refusedBy(x, x.turn(0), 1);
            is(x.list(3), 7);
            none(() -> x.score(0, 1, 0));
            balls(x, 0);
            is(x.turn(0), true);
        });
        test("promise 6, turn: rule 2, the GAME of one TURN of each is over behind two", () -> {
            BallBook x = game(1, 1);
            turnOf(x, 0, 1, CLOSE);
            turnOf(x, 0, 0, CLOSE);
            refusedBy(x, x.turn(0), 2);
            none(() -> x.score(0, 2, 0));
        });
        test("promise 6, turn: rule 2, a tie is over too", () -> {
            BallBook x = game(1, 1);
            turnOf(x, 0, CLOSE);
            turnOf(x, 0, CLOSE);
            nowIs(x, 10, 3);
            refusedBy(x, x.turn(0), 2);
        });
        test("promise 6, turn: rule 2, WON in TURN 1", () -> {
            BallBook x = game(1, 1);
            turnOf(x, 0, CLOSE);
            turnOf(x, 0, 1);
            refusedBy(x, x.turn(0), 2);
        });
        test("promise 6, turn: rule 2, the GAME of two TURNS of each is over behind four", () -> {
            BallBook x = game(1, 2);
            for (int t = 0; t < 4; t++) {
                turnOf(x, 0, CLOSE);
            }
            refusedBy(x, x.turn(0), 2);
            none(() -> x.score(0, 4, 0));
        });
        test("promise 6, turn: rule 2, WON behind TURN 2", () -> {
            BallBook x = game(1, 2);
            turnOf(x, 0, CLOSE);
            turnOf(x, 0, 1, CLOSE);
            turnOf(x, 0, CLOSE);
            refusedBy(x, x.turn(0), 2);
            none(() -> x.score(0, 3, 0));
        });
        test("promise 6, turn: THE PAGE has something that can't be", () -> {
            BallBook x = game(1, 1);
            turnOf(x, 0, CLOSE);
            x.put(0, 0, 0, 0, 255);
            refusedBy(x, x.turn(0), 7);
            none(() -> x.score(0, 1, 0));
            is(x.list(3), 4);
        });
    }

    private static void over() {
        test("promise 7, over: no such GAME", () -> {
            BallBook x = game(1, 1);
            x.turn(0);
            refusedBy(x, x.over(1, 0), 0);
            for (int game : NOWHERE) {
                refusedBy(x, x.over(game, 0), 0);
            }
            scoreIs(x, 0, 10, 0);
        });
        test("promise 7, over: there is no TURN (11)", () -> {
            BallBook x = game(1, 1);
            refusedBy(x, x.over(0, 0), 11);
            refusedBy(x, x.over(0, 11), 11);
            is(x.list(3), 0);
        });
        test("promise 7, over: begins with an empty ROW, in the latest TURN", () -> {
            BallBook x = game(1, 1);
            turnOf(x, 0, CLOSE);
            x.turn(0);
            is(x.over(0, 3), true);
            is(x.overs(0, 1, 0, 0), 3);
            is(x.overs(0, 1, 0, 1), 0);
            none(() -> x.entry(0, 1, 0, 0));
            scoreIs(x, 0, 10, 1);
        });
        test("promise 7, over: rule 4, the BOWLER is above 10", () -> {
            BallBook x = game(1, 1);
            x.turn(0);
            refusedBy(x, x.over(0, 11), 4);
            refusedBy(x, x.over(0, 15), 4);
            refusedBy(x, x.over(0, 16), 4);
            refusedBy(x, x.over(0, 256), 4);
            for (int bowler : NOWHERE) {
                refusedBy(x, x.over(0, bowler), 4);
            }
            scoreIs(x, 0, 10, 0);
            is(x.over(0, 10), true);
        });
        test("promise 7, over: THE PAGE has something that can't be, ahead of all rules", () -> {
            BallBook x = game(5, 1);
            turnOf(x, 0, 1);
            x.put(0, 0, 0, 0, 7);
            refusedBy(x, x.over(0, 0), 7);
            refusedBy(x, x.over(0, 99), 7);
            scoreIs(x, 0, 10, 1);
        });
    }

    private static void ball() {
        test("promise 8, ball: no such GAME", () -> {
            BallBook x = game(1, 1);
            turnOf(x, 0);
            refusedBy(x, x.ball(1, 0), 0);
            for (int game : NOWHERE) {
                refusedBy(x, x.ball(game, 0), 0);
            }
            rowIs(x, 0, 0);
        });
        test("promise 8, ball: there is no TURN (11)", () -> {
            BallBook x = game(1, 1);
            refusedBy(x, x.ball(0, 0), 11);
            refusedBy(x, x.ball(0, 255), 11);
        });
        test("promise 8, ball: there is no OVER in the latest TURN (11)", () -> {
            BallBook x = game(1, 1);
            x.turn(0);
            refusedBy(x, x.ball(0, 0), 11);
            refusedBy(x, x.ball(0, 255), 11);
            overOf(x, 0, CLOSE);
            x.turn(0);
            refusedBy(x, x.ball(0, 0), 11);
            rowIs(x, 0, 0, CLOSE);
        });
        test("promise 8, ball: the latest OVER is missing (11)", () -> {
            BallBook x = game(2, 1);
            turnOf(x, 0, 1);
            x.tear(0, 0, 0);
            refusedBy(x, x.ball(0, 0), 11);
            refusedBy(x, x.ball(0, 255), 11);
            is(x.overs(0, 0, 0, 1), N);
        });
        test("promise 8, ball: an earlier OVER that is missing is no matter", () -> {
            BallBook x = game(2, 1);
            turnOf(x, 0, 1);
            overOf(x, 1);
            x.tear(0, 0, 0);
            is(x.ball(0, 3), true);
            rowIs(x, 0, 1, 3);
        });
        test("promise 8, ball: the 40th ENTRY comes, the 41st does not (12)", () -> {
            BallBook x = game(1, 1);
            turnOf(x, 0, times(39, NOTE));
            is(x.ball(0, DEAD), true);
            refusedBy(x, x.ball(0, NOTE), 12);
            refusedBy(x, x.ball(0, 255), 12);
            is(x.overs(0, 0, 0, 1), 40);
            is(x.entry(0, 0, 0, 39), DEAD);
        });
        test("promise 8, ball: what is on THE PAGE already goes ahead of 11 and 12", () -> {
            BallBook x = game(2, 1);
            turnOf(x, 0, times(40, NOTE));
            x.mend(0, 0, 0, 39, 255);
            refusedBy(x, x.ball(0, 0), 7);
            x.undo();
            overOf(x, 1, 0);
            x.tear(0, 0, 1);
            x.bowls(0, 0, 0, 15);
            refusedBy(x, x.ball(0, 0), 4);
        });
        test("promise 8, ball: lowest 8 bits", () -> {
            BallBook x = game(1, 1);
            turnOf(x, 0);
            is(x.ball(0, 256 + 5), true);
            is(x.ball(0, LEAST + 2), true);
            is(x.ball(0, -256), true);
            refusedBy(x, x.ball(0, -1), 7);
            refusedBy(x, x.ball(0, MOST), 7);
            rowIs(x, 0, 0, 5, 2, 0);
        });
        test("promise 8, ball: a refused one adds nothing", () -> {
            BallBook x = game(1, 1);
            turnOf(x, 0, 1);
            long before = x.sum(0);
            refusedBy(x, x.ball(0, 7), 7);
            rowIs(x, 0, 0, 1);
            is(x.sum(0), before);
            is(x.list(3), 3);
        });
    }

    private static void feed() {
        test("promise 9, feed: twenty bytes, of each number the highest first", () -> {
            BallBook x = game(1, 1);
            turnOf(x, 0);
            is(x.feed(0x01020304, LEAST, MOST, -1, 0xFE00007F), 20);
            is(x.open(0, 0, 0, 20), true);
            rowIs(x, 0, 0, 1, 2, 3, 4, 128, 0, 0, 0, 127, 255, 255, 255, 255, 255, 255, 255, 254, 0, 0, 127);
        });
        test("promise 9, feed: behind the tape", () -> {
            BallBook x = game(1, 1);
            turnOf(x, 0);
            x.feed(1, 0, 0, 0, 2);
            is(x.feed(0x03000000, 0, 0, 0, 4), 40);
            x.open(0, 0, 0, 40);
            is(x.entry(0, 0, 0, 3), 1);
            is(x.entry(0, 0, 0, 19), 2);
            is(x.entry(0, 0, 0, 20), 3);
            is(x.entry(0, 0, 0, 39), 4);
        });
        test("promise 9, feed: up to 6,000, then NONE, and none come", () -> {
            BallBook x = new BallBook();
            for (int k = 1; k < 300; k++) {
                x.feed(0x42000000, 0, 0, 0, 0);
            }
            is(x.feed(0, 0, 0, 0, 0), 6000);
            is(x.feed(0, 0, 0, 0, 0), N);
            is(x.list(2), 6000);
            is(x.check(6001), -1);
            is(x.check(6000), 2);
            is(x.feed(0, 0, 0, 0, 0), 20);
        });
    }

    private static BallBook withRow(int... entries) {
        BallBook x = game(5, 1);
        turnOf(x, 0, entries);
        return x;
    }

    private static void open() {
        test("promise 10, open: no such GAME, TURN, OVER, and the tape stays", () -> {
            BallBook x = withRow(4);
            x.feed(0x01020304, 0, 0, 0, 0);
            is(x.open(1, 0, 0, 1), false);
            is(x.open(0, 1, 0, 1), false);
            is(x.open(0, 0, 1, 1), false);
            for (int nowhere : NOWHERE) {
                is(x.open(nowhere, 0, 0, 1), false);
                is(x.open(0, nowhere, 0, 1), false);
                is(x.open(0, 0, nowhere, 1), false);
            }
            is(x.list(2), 20);
            rowIs(x, 0, 0, 4);
            is(x.open(0, 0, 0, 3), true);
            rowIs(x, 0, 0, 1, 2, 3);
        });
        test("promise 10, open: n below 0", () -> {
            BallBook x = withRow(4);
            x.feed(0, 0, 0, 0, 0);
            is(x.open(0, 0, 0, -1), false);
            is(x.open(0, 0, 0, LEAST), false);
            is(x.list(2), 20);
            rowIs(x, 0, 0, 4);
        });
        test("promise 10, open: n above 40", () -> {
            BallBook x = withRow(4);
            x.feed(0, 0, 0, 0, 0);
            x.feed(0, 0, 0, 0, 0);
            x.feed(0, 0, 0, 0, 0);
            is(x.open(0, 0, 0, 41), false);
            is(x.open(0, 0, 0, MOST), false);
            is(x.list(2), 60);
            rowIs(x, 0, 0, 4);
            is(x.open(0, 0, 0, 40), true);
            rowIs(x, 0, 0, times(40, 0));
        });
        test("promise 10, open: n 0 makes an empty ROW, and the tape is empty then", () -> {
            BallBook x = withRow(4);
            x.feed(1, 1, 1, 1, 1);
            is(x.open(0, 0, 0, 0), true);
            rowIs(x, 0, 0);
            is(x.list(2), 0);
            is(x.open(0, 0, 0, 0), true);
        });
        test("promise 10, open: the tape has not so many", () -> {
            BallBook x = withRow(4);
            is(x.open(0, 0, 0, 1), false);
            x.feed(1, 1, 1, 1, 1);
            is(x.open(0, 0, 0, 21), false);
            is(x.list(2), 20);
            rowIs(x, 0, 0, 4);
            is(x.open(0, 0, 0, 20), true);
            is(x.overs(0, 0, 0, 1), 20);
        });
        test("promise 10, open: the rest of the tape is gone", () -> {
            BallBook x = withRow();
            x.feed(0x01020304, 5, 5, 5, 5);
            is(x.open(0, 0, 0, 2), true);
            is(x.list(2), 0);
            x.feed(0x06000000, 0, 0, 0, 0);
            is(x.open(0, 0, 0, 1), true);
            rowIs(x, 0, 0, 6);
        });
        test("promise 10, open: a missing one, too", () -> {
            BallBook x = withRow(4);
            x.tear(0, 0, 0);
            x.feed(0x01020000, 0, 0, 0, 0);
            is(x.open(0, 0, 0, 2), true);
            rowIs(x, 0, 0, 1, 2);
            x.tear(0, 0, 0);
            is(x.open(0, 0, 0, 0), true);
            rowIs(x, 0, 0);
        });
        test("promise 10, open: whatever they are", () -> {
            BallBook x = withRow(4);
            x.feed(0x00FFA007, 0, 0, 0, 0);
            is(x.open(0, 0, 0, 4), true);
            rowIs(x, 0, 0, 0, 255, 160, 7);
            cannot(x, 7, 0, 0, 1);
        });
    }

    private static void tear() {
        test("promise 11, tear: no such OVER", () -> {
            BallBook x = withRow(4);
            is(x.tear(1, 0, 0), false);
            is(x.tear(0, 1, 0), false);
            is(x.tear(0, 0, 1), false);
            for (int nowhere : NOWHERE) {
                is(x.tear(nowhere, 0, 0), false);
                is(x.tear(0, nowhere, 0), false);
                is(x.tear(0, 0, nowhere), false);
            }
            rowIs(x, 0, 0, 4);
            is(x.list(3), 3);
        });
        test("promise 11, tear: it is missing already", () -> {
            BallBook x = withRow(4);
            is(x.tear(0, 0, 0), true);
            is(x.tear(0, 0, 0), false);
            is(x.list(3), 4);
            is(x.overs(0, 0, 0, 1), N);
        });
        test("promise 11, tear: an empty ROW is not missing", () -> {
            BallBook x = withRow();
            is(x.tear(0, 0, 0), true);
            is(x.overs(0, 0, 0, 1), N);
        });
    }

    private static void put() {
        test("promise 12, put: no such OVER", () -> {
            BallBook x = withRow(4);
            is(x.put(1, 0, 0, 0, 1), false);
            is(x.put(0, 1, 0, 0, 1), false);
            is(x.put(0, 0, 1, 0, 1), false);
            for (int nowhere : NOWHERE) {
                is(x.put(nowhere, 0, 0, 0, 1), false);
                is(x.put(0, nowhere, 0, 0, 1), false);
                is(x.put(0, 0, nowhere, 0, 1), false);
            }
            rowIs(x, 0, 0, 4);
        });
        test("promise 12, put: no ROW", () -> {
            BallBook x = withRow(4);
            x.tear(0, 0, 0);
            is(x.put(0, 0, 0, 0, 1), false);
            is(x.put(0, 0, 0, -1, 1), false);
            is(x.overs(0, 0, 0, 1), N);
        });
        test("promise 12, put: no such place", () -> {
            BallBook x = withRow(4, 5);
            is(x.put(0, 0, 0, 3, 1), false);
            for (int i : NOWHERE) {
                is(x.put(0, 0, 0, i, 1), false);
            }
            rowIs(x, 0, 0, 4, 5);
        });
        test("promise 12, put: ahead of the first, between, and behind all", () -> {
            BallBook x = withRow(4, 5);
            is(x.put(0, 0, 0, 2, 6), true);
            is(x.put(0, 0, 0, 0, 1), true);
            is(x.put(0, 0, 0, 2, 2), true);
            rowIs(x, 0, 0, 1, 4, 2, 5, 6);
        });
        test("promise 12, put: into an empty ROW", () -> {
            BallBook x = withRow();
            is(x.put(0, 0, 0, 1, 3), false);
            is(x.put(0, 0, 0, 0, 3), true);
            rowIs(x, 0, 0, 3);
        });
        test("promise 12, put: the 40th comes, then 40 are there", () -> {
            BallBook x = withRow(times(39, NOTE));
            is(x.put(0, 0, 0, 0, 1), true);
            is(x.put(0, 0, 0, 0, 2), false);
            is(x.put(0, 0, 0, 40, 2), false);
            is(x.overs(0, 0, 0, 1), 40);
            is(x.entry(0, 0, 0, 0), 1);
            is(x.entry(0, 0, 0, 39), NOTE);
        });
        test("promise 12, put: lowest 8 bits, whatever they are", () -> {
            BallBook x = withRow();
            is(x.put(0, 0, 0, 0, -1), true);
            is(x.put(0, 0, 0, 0, 256), true);
            is(x.put(0, 0, 0, 0, MOST - 1), true);
            is(x.put(0, 0, 0, 0, LEAST), true);
            rowIs(x, 0, 0, 0, 254, 0, 255);
        });
    }

    private static void mend() {
        test("promise 13, mend: no such OVER", () -> {
            BallBook x = withRow(4);
            is(x.mend(1, 0, 0, 0, 1), N);
            is(x.mend(0, 1, 0, 0, 1), N);
            is(x.mend(0, 0, 1, 0, 1), N);
            for (int nowhere : NOWHERE) {
                is(x.mend(nowhere, 0, 0, 0, 1), N);
                is(x.mend(0, nowhere, 0, 0, 1), N);
                is(x.mend(0, 0, nowhere, 0, 1), N);
            }
            rowIs(x, 0, 0, 4);
        });
        test("promise 13, mend: no such ENTRY", () -> {
            BallBook x = withRow(4, 5);
            is(x.mend(0, 0, 0, 2, 1), N);
            for (int i : NOWHERE) {
                is(x.mend(0, 0, 0, i, 1), N);
            }
            rowIs(x, 0, 0, 4, 5);
            is(x.list(3), 4);
        });
        test("promise 13, mend: none in an empty ROW, none without one", () -> {
            BallBook x = withRow();
            is(x.mend(0, 0, 0, 0, 1), N);
            x.tear(0, 0, 0);
            is(x.mend(0, 0, 0, 0, 1), N);
            is(x.mend(0, 0, 0, -1, 1), N);
            is(x.overs(0, 0, 0, 1), N);
        });
        test("promise 13, mend: the first and the last tell what they were", () -> {
            BallBook x = withRow(4, 5, 6);
            is(x.mend(0, 0, 0, 0, 1), 4);
            is(x.mend(0, 0, 0, 2, 3), 6);
            rowIs(x, 0, 0, 1, 5, 3);
        });
        test("promise 13, mend: lowest 8 bits, and what it was is a byte, too", () -> {
            BallBook x = withRow(4);
            is(x.mend(0, 0, 0, 0, -1), 4);
            is(x.mend(0, 0, 0, 0, 256), 255);
            is(x.mend(0, 0, 0, 0, MOST - 1), 0);
            is(x.mend(0, 0, 0, 0, LEAST), 254);
            rowIs(x, 0, 0, 0);
        });
    }

    private static void out() {
        test("promise 14, out: no such OVER", () -> {
            BallBook x = withRow(4);
            is(x.out(1, 0, 0, 0), N);
            is(x.out(0, 1, 0, 0), N);
            is(x.out(0, 0, 1, 0), N);
            for (int nowhere : NOWHERE) {
                is(x.out(nowhere, 0, 0, 0), N);
                is(x.out(0, nowhere, 0, 0), N);
                is(x.out(0, 0, nowhere, 0), N);
            }
            rowIs(x, 0, 0, 4);
        });
        test("promise 14, out: no such ENTRY", () -> {
            BallBook x = withRow(4, 5);
            is(x.out(0, 0, 0, 2), N);
            for (int i : NOWHERE) {
                is(x.out(0, 0, 0, i), N);
            }
            rowIs(x, 0, 0, 4, 5);
            is(x.list(3), 4);
        });
        test("promise 14, out: the first, the last, and the only one", () -> {
            BallBook x = withRow(4, 5, 6);
            is(x.out(0, 0, 0, 2), 6);
            rowIs(x, 0, 0, 4, 5);
            is(x.out(0, 0, 0, 0), 4);
            rowIs(x, 0, 0, 5);
            is(x.out(0, 0, 0, 0), 5);
            rowIs(x, 0, 0);
        });
        test("promise 14, out: none of an empty ROW, none without one", () -> {
            BallBook x = withRow();
            is(x.out(0, 0, 0, 0), N);
            x.tear(0, 0, 0);
            is(x.out(0, 0, 0, 0), N);
            is(x.out(0, 0, 0, -1), N);
            is(x.overs(0, 0, 0, 1), N);
        });
        test("promise 14, out: one of 40 makes room", () -> {
            BallBook x = withRow(times(40, NOTE));
            is(x.out(0, 0, 0, 20), NOTE);
            is(x.overs(0, 0, 0, 1), 39);
            is(x.ball(0, 3), true);
            is(x.entry(0, 0, 0, 39), 3);
        });
    }

    private static void bowls() {
        test("promise 15, bowls: no such OVER", () -> {
            BallBook x = withRow(4);
            is(x.bowls(1, 0, 0, 1), N);
            is(x.bowls(0, 1, 0, 1), N);
            is(x.bowls(0, 0, 1, 1), N);
            for (int nowhere : NOWHERE) {
                is(x.bowls(nowhere, 0, 0, 1), N);
                is(x.bowls(0, nowhere, 0, 1), N);
                is(x.bowls(0, 0, nowhere, 1), N);
            }
            is(x.overs(0, 0, 0, 0), 0);
            is(x.list(3), 3);
        });
        test("promise 15, bowls: lowest 4 bits", () -> {
            BallBook x = withRow(4);
            is(x.bowls(0, 0, 0, 16 + 3), 0);
            is(x.bowls(0, 0, 0, -1), 3);
            is(x.bowls(0, 0, 0, LEAST), 15);
            is(x.bowls(0, 0, 0, MOST), 0);
            is(x.overs(0, 0, 0, 0), 15);
        });
        test("promise 15, bowls: a number above 10 can't be, and can be changed back", () -> {
            BallBook x = withRow(4);
            is(x.bowls(0, 0, 0, 11), 0);
            cannot(x, 4, 0, 0, N);
            scoreIs(x, 0, 0, 0);
            is(x.bowls(0, 0, 0, 10), 11);
            cannot(x, 0, N, N, N);
            scoreIs(x, 0, 0, 4);
        });
        test("promise 15, bowls: an OVER that is missing has a BOWLER, too", () -> {
            BallBook x = withRow(4);
            x.tear(0, 0, 0);
            is(x.bowls(0, 0, 0, 6), 0);
            is(x.overs(0, 0, 0, 0), 6);
            is(x.overs(0, 0, 0, 1), N);
        });
    }

    private static void undo() {
        test("promise 16, undo: there is none", () -> {
            BallBook x = new BallBook();
            is(x.undo(), N);
            x.side(11);
            x.side(11);
            x.toss(0, 1, 1, 1);
            is(x.undo(), N);
        });
        test("promise 16, undo: a change that has been undone is not undone again", () -> {
            BallBook x = game(1, 1);
            x.turn(0);
            is(x.undo(), 0);
            is(x.undo(), N);
            is(x.list(3), 0);
        });
        test("promise 16, undo: refused calls are no changes", () -> {
            BallBook x = withRow(4);
            x.turn(0);
            x.over(0, 0);
            x.ball(0, 255);
            x.open(0, 0, 0, 1);
            x.tear(0, 0, 1);
            x.put(0, 0, 0, 9, 0);
            x.mend(0, 0, 0, 9, 0);
            x.out(0, 0, 0, 9);
            x.bowls(0, 0, 9, 0);
            is(x.list(3), 3);
            is(x.undo(), 0);
            rowIs(x, 0, 0);
        });
        test("promise 16, undo: calls that change no PAGE are no changes", () -> {
            BallBook x = game(5, 1);
            x.seat(0, 0, 0, 5);
            x.player(0);
            x.feed(0, 0, 0, 0, 0);
            x.check(20);
            x.toss(0, 1, 1, 1);
            x.image(0);
            is(x.list(3), 0);
            is(x.undo(), N);
            x.turn(0);
            is(x.bats(0, 0, 0, 3), 5);
        });
        test("promise 16, undo: a change to the same is a change", () -> {
            BallBook x = withRow(4);
            is(x.mend(0, 0, 0, 0, 4), 4);
            is(x.bowls(0, 0, 0, 0), 0);
            is(x.list(3), 5);
        });
        test("promise 16, undo: the latest 40 are kept", () -> {
            BallBook x = withRow();
            balls(x, times(37, NOTE));
            is(x.list(3), 39);
            balls(x, NOTE);
            is(x.list(3), 40);
            x.bowls(0, 0, 0, 1);
            is(x.list(3), 40);
            for (int k = 0; k < 40; k++) {
                is(x.undo(), 0);
            }
            is(x.undo(), N);
            is(x.list(3), 0);
            scoreIs(x, 0, 10, 0);
        });
        test("promise 16, undo: 40 are kept however many came, and in their order", () -> {
            BallBook x = withRow(0);
            for (int k = 1; k <= 130; k++) {
                x.mend(0, 0, 0, 0, k);
            }
            is(x.list(3), 40);
            for (int k = 129; k >= 90; k--) {
                is(x.undo(), 0);
                is(x.entry(0, 0, 0, 0), k);
            }
            is(x.undo(), N);
            is(x.entry(0, 0, 0, 0), 90);
        });
        test("promise 16, undo: changes and undoings by turns over the edge of 40", () -> {
            BallBook x = withRow(0);
            for (int k = 1; k <= 60; k++) {
                x.mend(0, 0, 0, 0, k);
                x.mend(0, 0, 0, 0, 200);
                is(x.undo(), 0);
            }
            is(x.list(3), 39);
            is(x.undo(), 0);
            is(x.entry(0, 0, 0, 0), 59);
            x.mend(0, 0, 0, 0, 7);
            is(x.list(3), 39);
            x.mend(0, 0, 0, 0, 8);
            x.mend(0, 0, 0, 0, 9);
            is(x.list(3), 40);
        });
        test("promise 16, undo: of several GAMES the latest change goes first", () -> {
            BallBook x = game(1, 1);
            x.toss(1, 0, 1, 1);
            x.turn(1);
            x.turn(0);
            x.over(1, 0);
            is(x.undo(), 1);
            is(x.score(1, 0, 10), 0);
            is(x.undo(), 0);
            none(() -> x.score(0, 0, 0));
            is(x.undo(), 1);
            none(() -> x.score(1, 0, 0));
            is(x.undo(), N);
        });
        test("promise 16, undo: a GAME that was taken has none", () -> {
            BallBook x = withRow(4);
            int[] bytes = imageOf(x, 0);
            is(taken(x, bytes), 1);
            is(x.list(3), 3);
            is(x.undo(), 0);
            is(x.entry(1, 0, 0, 0), 4);
        });
    }

    private static void undoEachKind() {
        test("promise 16, undo: of turn(), over(), ball()", () -> {
            BallBook x = withRow(4);
            is(x.undo(), 0);
            rowIs(x, 0, 0);
            is(x.undo(), 0);
            scoreIs(x, 0, 10, 0);
            is(x.undo(), 0);
            none(() -> x.score(0, 0, 0));
            nowIs(x, 0, N);
        });
        test("promise 16, undo: of open(), while the tape stays empty", () -> {
            BallBook x = withRow(times(40, NOTE));
            x.feed(1, 1, 1, 1, 1);
            x.open(0, 0, 0, 2);
            is(x.undo(), 0);
            rowIs(x, 0, 0, times(40, NOTE));
            is(x.list(2), 0);
        });
        test("promise 16, undo: of open() of a missing ROW", () -> {
            BallBook x = withRow(4);
            x.tear(0, 0, 0);
            x.open(0, 0, 0, 0);
            is(x.undo(), 0);
            is(x.overs(0, 0, 0, 1), N);
        });
        test("promise 16, undo: of tear(), of a full ROW and of an empty one", () -> {
            BallBook x = withRow(times(40, DEAD));
            x.tear(0, 0, 0);
            is(x.undo(), 0);
            rowIs(x, 0, 0, times(40, DEAD));
            x.open(0, 0, 0, 0);
            x.tear(0, 0, 0);
            is(x.undo(), 0);
            rowIs(x, 0, 0);
        });
        test("promise 16, undo: of put(), mend(), out() at both ends", () -> {
            BallBook x = withRow(4, 5);
            x.put(0, 0, 0, 0, 1);
            x.put(0, 0, 0, 3, 1);
            x.mend(0, 0, 0, 0, 2);
            x.mend(0, 0, 0, 3, 2);
            x.out(0, 0, 0, 0);
            x.out(0, 0, 0, 2);
            rowIs(x, 0, 0, 4, 5);
            x.undo();
            rowIs(x, 0, 0, 4, 5, 2);
            x.undo();
            rowIs(x, 0, 0, 2, 4, 5, 2);
            x.undo();
            rowIs(x, 0, 0, 2, 4, 5, 1);
            x.undo();
            rowIs(x, 0, 0, 1, 4, 5, 1);
            x.undo();
            rowIs(x, 0, 0, 1, 4, 5);
            x.undo();
            rowIs(x, 0, 0, 4, 5);
        });
        test("promise 16, undo: of bowls()", () -> {
            BallBook x = withRow(4);
            x.bowls(0, 0, 0, 15);
            is(x.undo(), 0);
            is(x.overs(0, 0, 0, 0), 0);
            cannot(x, 0, N, N, N);
        });
        test("promise 16, undo: of a change in an earlier TURN and OVER", () -> {
            BallBook x = game(2, 1);
            turnOf(x, 0, 1);
            overOf(x, 1, 2, CLOSE);
            turnOf(x, 2, 3);
            long before = x.sum(0);
            x.mend(0, 0, 0, 0, 6);
            x.tear(0, 0, 1);
            is(x.undo(), 0);
            is(x.undo(), 0);
            is(x.sum(0), before);
            rowIs(x, 0, 0, 1);
            rowIs(x, 0, 1, 2, CLOSE);
            rowIs(x, 1, 0, 3);
        });
    }

    private static void why() {
        test("promise 17, why: 0 ahead of any", () -> {
            BallBook x = game(1, 1);
            is(x.why(), 0);
        });
        test("promise 17, why: 0 behind one that was done", () -> {
            BallBook x = game(1, 1);
            refusedBy(x, x.over(0, 0), 11);
            x.turn(0);
            is(x.why(), 0);
            refusedBy(x, x.over(0, 11), 4);
            x.over(0, 0);
            is(x.why(), 0);
            refusedBy(x, x.ball(0, 7), 7);
            x.ball(0, 6);
            is(x.why(), 0);
        });
        test("promise 17, why: 0 behind no such GAME, whatever it was", () -> {
            BallBook x = game(1, 1);
            refusedBy(x, x.over(0, 0), 11);
            refusedBy(x, x.turn(1), 0);
            refusedBy(x, x.over(0, 0), 11);
            refusedBy(x, x.over(-1, 0), 0);
            refusedBy(x, x.over(0, 0), 11);
            refusedBy(x, x.ball(1, 0), 0);
        });
        test("promise 17, why: other calls leave it, done or refused", () -> {
            BallBook x = withRow(4);
            refusedBy(x, x.ball(0, 7), 7);
            x.put(0, 0, 0, 0, 1);
            x.put(9, 0, 0, 0, 1);
            x.mend(0, 0, 0, 0, 1);
            x.out(0, 0, 0, 9);
            x.bowls(0, 0, 0, 1);
            x.tear(0, 0, 0);
            x.open(0, 0, 0, 9);
            x.undo();
            x.seat(0, 0, 0, 0);
            x.toss(0, 1, 1, 1);
            x.take(0);
            x.image(0);
            is(x.why(), 7);
            is(x.why(), 7);
        });
        test("promise 17, why: what can't be on THE PAGE already tells its own", () -> {
            BallBook x = withRow(4);
            x.bowls(0, 0, 0, 15);
            refusedBy(x, x.turn(0), 4);
            refusedBy(x, x.over(0, 15), 4);
            refusedBy(x, x.ball(0, 255), 4);
            x.bowls(0, 0, 0, 0);
            x.put(0, 0, 0, 1, RAIN + 5);
            refusedBy(x, x.turn(0), 10);
            refusedBy(x, x.over(0, 15), 10);
            refusedBy(x, x.ball(0, 255), 10);
        });
    }
}

import java.math.BigInteger;

/** Promises 18 to 30, the calls that tell and the images: a test for each sentence that names a boundary case. */
public final class AnswerEdgesTest extends BookTest {
    /** Numbers that no row of the document reaches. */
    private static final int[] NOWHERE = {LEAST, -1, MOST};

    public static void main(String[] args) {
        now();
        nowOfChase();
        score();
        overs();
        entry();
        bats();
        fields();
        record();
        recordOfLikes();
        image();
        imageOfMost();
        told();
        checkOfHead();
        checkOfTurns();
        checkByPlay();
        take();
        list();
        sum();
        end();
    }

    private static BallBook begun(int overs, int... entries) {
        BallBook x = game(overs, 1);
        turnOf(x, 0, entries);
        return x;
    }

    private static void now() {
        test("promise 18, now: no such GAME, what", () -> {
            BallBook x = begun(2);
            none(() -> x.now(1, 0));
            none(() -> x.now(0, 15));
            for (int nowhere : NOWHERE) {
                none(() -> x.now(nowhere, 0));
                none(() -> x.now(0, nowhere));
            }
            is(x.now(0, 14), N);
        });
        test("promise 18, now: without a TURN 0 to 9 are NONE, nobody has WON, nothing can't be", () -> {
            BallBook x = game(2, 1);
            for (int what = 0; what < 10; what++) {
                nowIs(x, what, N);
            }
            nowIs(x, 10, 0);
            cannot(x, 0, N, N, N);
        });
        test("promise 18, now: a TURN without an OVER has no BOWLER", () -> {
            BallBook x = game(2, 1);
            x.turn(0);
            nowIs(x, 0, 0);
            nowIs(x, 1, 0);
            nowIs(x, 2, 1);
            nowIs(x, 3, N);
            nowIs(x, 4, 12);
            nowIs(x, 5, 0);
            nowIs(x, 9, 72);
        });
        test("promise 18, now: 3 is of the TURN at hand, not of the one ahead", () -> {
            BallBook x = begun(2, CLOSE);
            x.turn(0);
            nowIs(x, 3, N);
        });
        test("promise 18, now: 3 is of the latest OVER that is played", () -> {
            BallBook x = begun(5);
            x.over(0, 7);
            nowIs(x, 3, 7);
            x.bowls(0, 0, 1, 11);
            nowIs(x, 3, 0);
            x.bowls(0, 0, 0, 11);
            nowIs(x, 3, N);
        });
        test("promise 18, now: 0 is the latest TURN that is played", () -> {
            BallBook x = begun(2, CLOSE);
            x.turn(0);
            nowIs(x, 0, 1);
            x.mend(0, 0, 0, 0, 255);
            nowIs(x, 0, 0);
        });
        test("promise 18, now: 12 to 14, of a TURN, an OVER, an ENTRY", () -> {
            BallBook x = begun(5, CLOSE);
            turnOf(x, 0, 0, 0);
            cannot(x, 0, N, N, N);
            x.mend(0, 1, 0, 1, 7);
            cannot(x, 7, 1, 0, 1);
            x.bowls(0, 1, 0, 15);
            cannot(x, 4, 1, 0, N);
            x.mend(0, 0, 0, 0, DEAD);
            cannot(x, 1, 1, N, N);
        });
        test("promise 18, now: 9 is 6 for each ball left, of one that has ended its score", () -> {
            BallBook x = begun(1, 1, WIDE);
            nowIs(x, 9, 2 + 30);
            balls(x, CLOSE);
            nowIs(x, 9, 2);
        });
    }

    /** Turn 0 makes 36 runs, turn 1 has one over. */
    private static BallBook chase(int... entries) {
        BallBook x = begun(1, 6, 6, 6, 6, 6, 6);
        turnOf(x, 0, entries);
        return x;
    }

    private static void nowOfChase() {
        test("promise 18, now: 7 is 0 if it is reached, and if it is passed", () -> {
            BallBook x = begun(1, 3, CLOSE);
            turnOf(x, 0, 3);
            nowIs(x, 7, 1);
            balls(x, 6);
            nowIs(x, 6, 4);
            nowIs(x, 7, 0);
            nowIs(x, 8, 1);
            nowIs(x, 9, 9);
        });
        test("promise 18, now: 8, one run more than 6 for each ball left can't be had", () -> {
            BallBook x = chase();
            nowIs(x, 6, 37);
            nowIs(x, 7, 37);
            nowIs(x, 4, 6);
            nowIs(x, 8, 0);
            nowIs(x, 9, 36);
        });
        test("promise 18, now: 8, as many as 6 for each ball left can be had", () -> {
            BallBook x = chase(WIDE);
            nowIs(x, 7, 36);
            nowIs(x, 8, 1);
            nowIs(x, 9, 37);
        });
        test("promise 18, now: 8, of a TURN that has ended 1 only if none are needed", () -> {
            BallBook x = chase(WIDE, CLOSE);
            nowIs(x, 7, 36);
            nowIs(x, 8, 0);
            nowIs(x, 9, 1);
            BallBook won = chase(WIDE, 6, 6, 6, 6, 6, 6);
            nowIs(won, 7, 0);
            nowIs(won, 8, 1);
        });
        test("promise 18, now: 6, 7, 8 are NONE but in the last TURN", () -> {
            BallBook x = begun(1, CLOSE);
            for (int what = 6; what < 9; what++) {
                nowIs(x, what, N);
            }
            x.turn(0);
            nowIs(x, 6, 1);
            x.undo();
            nowIs(x, 6, N);
        });
    }

    private static void score() {
        test("promise 19, score: no such GAME, TURN, what", () -> {
            BallBook x = begun(2);
            none(() -> x.score(1, 0, 0));
            none(() -> x.score(0, 1, 0));
            none(() -> x.score(0, 0, 16));
            for (int nowhere : NOWHERE) {
                none(() -> x.score(nowhere, 0, 0));
                none(() -> x.score(0, nowhere, 0));
                none(() -> x.score(0, 0, nowhere));
            }
            is(x.score(0, 0, 15), 0);
        });
        test("promise 19, score: there is no TURN yet", () -> {
            BallBook x = game(2, 1);
            none(() -> x.score(0, 0, 0));
        });
        test("promise 19, score: 9 is 1 of a TURN that is played, even where nothing of it can be", () -> {
            BallBook x = game(2, 1);
            x.turn(0);
            scoreIs(x, 0, 9, 1);
            overOf(x, 0);
            x.bowls(0, 0, 0, 15);
            scoreIs(x, 0, 9, 1);
            scoreIs(x, 0, 5, 2);
            scoreIs(x, 0, 8, 33);
        });
        test("promise 19, score: of a TURN that is not played all are 0 but its OVERS on THE PAGE", () -> {
            BallBook x = begun(2, 6, CLOSE);
            turnOf(x, 0, 4, OUT);
            overOf(x, 1, WIDE);
            x.mend(0, 0, 0, 1, NOTE);
            for (int what = 0; what < 16; what++) {
                scoreIs(x, 1, what, what == 10 ? 2 : 0);
            }
        });
        test("promise 19, score: 3 is 0 where the latest OVER is whole, by six or missing", () -> {
            BallBook x = begun(3, 0, 0, 0, 0, 0);
            scoreIs(x, 0, 3, 5);
            balls(x, 0);
            scoreIs(x, 0, 3, 0);
            overOf(x, 1, 0, 0);
            scoreIs(x, 0, 3, 2);
            x.tear(0, 0, 1);
            scoreIs(x, 0, 3, 0);
        });
        test("promise 19, score: 2 counts whole OVERS, 7 the OPEN ones, 10 all on THE PAGE", () -> {
            BallBook x = begun(5, 0);
            overOf(x, 1, 0, 0, 0, 0, 0, 0);
            overOf(x, 2);
            x.tear(0, 0, 2);
            overOf(x, 3, 0);
            overOf(x, 4, 0);
            scoreIs(x, 0, 2, 4);
            scoreIs(x, 0, 7, 3);
            scoreIs(x, 0, 10, 5);
            x.bowls(0, 0, 2, 15);
            scoreIs(x, 0, 2, 2);
            scoreIs(x, 0, 7, 1);
            scoreIs(x, 0, 10, 5);
        });
        test("promise 19, score: 14 and 15 are all outs, at ten of them", () -> {
            BallBook x = begun(2, OUT, OUT + 1, OUT + 2, OUT + 3, RUN_OUT, RUN_OUT + 1);
            overOf(x, 1, RUN_OUT, OUT, OUT, RUN_OUT + 1);
            scoreIs(x, 0, 1, 10);
            scoreIs(x, 0, 14, 6);
            scoreIs(x, 0, 15, 4);
        });
        test("promise 19, score: 15 counts SEAT 0, too", () -> {
            BallBook x = begun(2, RUN_OUT);
            scoreIs(x, 0, 15, 1);
            scoreIs(x, 0, 14, 0);
        });
        test("promise 19, score: the three sums meet, with each kind's most and least", () -> {
            BallBook x = begun(2, 6, 0, WIDE + 4, WIDE, FOUL + 6, FOUL, RUN_OUT + 7, BYE + 4, BYE + 1, 5);
            overOf(x, 1, RUN_OUT + 6, FOUL + 5);
            for (int sum = 11; sum < 14; sum++) {
                scoreIs(x, 0, sum, x.score(0, 0, 0));
            }
            // 6 + 5 + 1 + 7 + 1 + 3 + 4 + 1 + 5 + 3 + 6
            scoreIs(x, 0, 0, 42);
        });
    }

    private static void oversAre(BallBook x, int over, int... due) {
        for (int what = 0; what < 8; what++) {
            is(x.overs(0, 0, over, what), due[what]);
        }
    }

    private static void overs() {
        test("promise 20, overs: no such GAME, TURN, OVER, what", () -> {
            BallBook x = begun(2);
            none(() -> x.overs(1, 0, 0, 0));
            none(() -> x.overs(0, 1, 0, 0));
            none(() -> x.overs(0, 0, 1, 0));
            none(() -> x.overs(0, 0, 0, 8));
            for (int nowhere : NOWHERE) {
                none(() -> x.overs(nowhere, 0, 0, 0));
                none(() -> x.overs(0, nowhere, 0, 0));
                none(() -> x.overs(0, 0, nowhere, 0));
                none(() -> x.overs(0, 0, 0, nowhere));
            }
            is(x.overs(0, 0, 0, 7), 1);
        });
        test("promise 20, overs: an empty ROW, a full one, and none", () -> {
            BallBook x = begun(5);
            oversAre(x, 0, 0, 0, 0, 0, 0, 0, 0, 1);
            balls(x, times(40, FOUL + 6));
            oversAre(x, 0, 0, 40, 280, 0, 0, 0, 0, 1);
            x.tear(0, 0, 0);
            oversAre(x, 0, 0, N, 0, 0, 0, 1, 1, 1);
        });
        test("promise 20, overs: one that is not played has its BOWLER and ENTRIES alone", () -> {
            BallBook x = begun(5, 4, 4);
            overOf(x, 3, 6, OUT);
            overOf(x, 4, 1);
            x.bowls(0, 0, 1, 15);
            oversAre(x, 0, 0, 2, 8, 0, 2, 0, 0, 1);
            oversAre(x, 1, 15, 2, 0, 0, 0, 0, 0, 0);
            oversAre(x, 2, 4, 1, 0, 0, 0, 0, 0, 0);
            x.tear(0, 0, 2);
            oversAre(x, 2, 4, N, 0, 0, 0, 0, 0, 0);
        });
        test("promise 20, overs: one that is played in part, up to the ENTRY that can't be", () -> {
            BallBook x = begun(5, 4, OUT, 6);
            overOf(x, 3, 1);
            x.mend(0, 0, 0, 2, 255);
            oversAre(x, 0, 0, 3, 4, 1, 2, 0, 0, 1);
            x.mend(0, 0, 0, 0, 255);
            oversAre(x, 0, 0, 3, 0, 0, 0, 0, 0, 1);
        });
        test("promise 20, overs: six outs in one", () -> {
            BallBook x = begun(5, times(6, OUT));
            oversAre(x, 0, 0, 6, 0, 6, 6, 1, 0, 1);
        });
    }

    private static void entry() {
        test("promise 21, entry: there is none such", () -> {
            BallBook x = begun(2, 4, 5);
            none(() -> x.entry(1, 0, 0, 0));
            none(() -> x.entry(0, 1, 0, 0));
            none(() -> x.entry(0, 0, 1, 0));
            none(() -> x.entry(0, 0, 0, 2));
            for (int nowhere : NOWHERE) {
                none(() -> x.entry(nowhere, 0, 0, 0));
                none(() -> x.entry(0, nowhere, 0, 0));
                none(() -> x.entry(0, 0, nowhere, 0));
                none(() -> x.entry(0, 0, 0, nowhere));
            }
            is(x.entry(0, 0, 0, 0), 4);
            is(x.entry(0, 0, 0, 1), 5);
        });
        test("promise 21, entry: none in an empty ROW, none without one", () -> {
            BallBook x = begun(2);
            none(() -> x.entry(0, 0, 0, 0));
            x.tear(0, 0, 0);
            none(() -> x.entry(0, 0, 0, 0));
            none(() -> x.entry(0, 0, 0, -1));
        });
        test("promise 21, entry: one that is gone is not told, though a longer ROW was there", () -> {
            BallBook x = begun(2, 1, 2, 3);
            x.out(0, 0, 0, 0);
            none(() -> x.entry(0, 0, 0, 2));
            x.open(0, 0, 0, 0);
            none(() -> x.entry(0, 0, 0, 0));
        });
        test("promise 21, entry: one that can't be, and one behind it, is told", () -> {
            BallBook x = begun(2, 4, 5);
            x.put(0, 0, 0, 0, 255);
            rowIs(x, 0, 0, 255, 4, 5);
        });
        test("promise 21, entry: the 40th", () -> {
            BallBook x = begun(2, times(40, NOTE + 9));
            is(x.entry(0, 0, 0, 39), NOTE + 9);
            none(() -> x.entry(0, 0, 0, 40));
        });
    }

    private static void batsAre(BallBook x, int seat, int... due) {
        for (int what = 0; what < 4; what++) {
            is(x.bats(0, 0, seat, what), due[what]);
        }
    }

    private static void bats() {
        test("promise 22, bats: no such GAME, TURN, SEAT, what", () -> {
            BallBook x = begun(2);
            none(() -> x.bats(1, 0, 0, 0));
            none(() -> x.bats(0, 1, 0, 0));
            none(() -> x.bats(0, 0, 11, 0));
            none(() -> x.bats(0, 0, 0, 4));
            for (int nowhere : NOWHERE) {
                none(() -> x.bats(nowhere, 0, 0, 0));
                none(() -> x.bats(0, nowhere, 0, 0));
                none(() -> x.bats(0, 0, nowhere, 0));
                none(() -> x.bats(0, 0, 0, nowhere));
            }
            is(x.bats(0, 0, 10, 3), 10);
        });
        test("promise 22, bats: WIDE, DEAD, NOTE, RAIN, CLOSE are not faced", () -> {
            BallBook x = begun(5, WIDE, WIDE + 2, DEAD, NOTE, RAIN + 1, CLOSE);
            batsAre(x, 0, 0, 0, 1, 0);
        });
        test("promise 22, bats: BALLS, FOULS, OUTS, RUN OUTS and BYES are faced by the one who faced", () -> {
            BallBook x = begun(5, 2, FOUL + 2, BYE + 2, RUN_OUT + 5, OUT);
            // SEAT 1 leaves by RUN OUT 5 (2 runs, then the other one)
            batsAre(x, 0, 6, 5, 2, 0);
            batsAre(x, 1, 0, 0, 6, 1);
            batsAre(x, 2, 0, 0, 1, 2);
            batsAre(x, 3, 0, 0, 1, 3);
            batsAre(x, 4, 0, 0, 0, 4);
        });
        test("promise 22, bats: out is 2 more than v of OUT, 2 to 5, and 6 run out", () -> {
            BallBook x = begun(5, OUT, OUT + 1, OUT + 2, OUT + 3, RUN_OUT);
            int[] due = {2, 1, 3, 4, 5, 6, 1, 0, 0, 0, 0};
            for (int seat = 0; seat < 11; seat++) {
                is(x.bats(0, 0, seat, 2), due[seat]);
            }
        });
        test("promise 22, bats: of a TURN that is not played nobody was in, and the PLAYER is told", () -> {
            BallBook x = game(5, 1);
            x.seat(0, 1, 0, 11);
            turnOf(x, 0, CLOSE);
            x.turn(0);
            is(x.bats(0, 1, 0, 2), 1);
            x.mend(0, 0, 0, 0, NOTE);
            is(x.bats(0, 1, 0, 2), 0);
            is(x.bats(0, 1, 0, 3), 11);
        });
        test("promise 22, bats: of TURNS 0 and 2 side 0, of 1 and 3 side 1", () -> {
            BallBook x = game(5, 2);
            x.seat(0, 0, 0, 9);
            x.seat(0, 1, 0, 11);
            for (int t = 0; t < 4; t++) {
                turnOf(x, 0, CLOSE);
                is(x.bats(0, t, 0, 3), t % 2 == 0 ? 9 : 11);
                is(x.fields(0, t, 0, 3), t % 2 == 0 ? 11 : 9);
            }
        });
    }

    private static void fieldsAre(BallBook x, int seat, int... due) {
        for (int what = 0; what < 4; what++) {
            is(x.fields(0, 0, seat, what), due[what]);
        }
    }

    private static void fields() {
        test("promise 23, fields: no such GAME, TURN, SEAT, what", () -> {
            BallBook x = begun(2);
            none(() -> x.fields(1, 0, 0, 0));
            none(() -> x.fields(0, 1, 0, 0));
            none(() -> x.fields(0, 0, 11, 0));
            none(() -> x.fields(0, 0, 0, 4));
            for (int nowhere : NOWHERE) {
                none(() -> x.fields(nowhere, 0, 0, 0));
                none(() -> x.fields(0, nowhere, 0, 0));
                none(() -> x.fields(0, 0, nowhere, 0));
                none(() -> x.fields(0, 0, 0, nowhere));
            }
            is(x.fields(0, 0, 10, 3), 10);
        });
        test("promise 23, fields: OVERS begun, an empty and a missing one, too", () -> {
            BallBook x = begun(11);
            overOf(x, 10);
            overOf(x, 0);
            x.tear(0, 0, 2);
            fieldsAre(x, 0, 2, 0, 0, 0);
            fieldsAre(x, 10, 1, 0, 0, 10);
            fieldsAre(x, 1, 0, 0, 0, 1);
        });
        test("promise 23, fields: runs of a WIDE are one, of a FOUL one more, of a BYE none", () -> {
            BallBook x = begun(5, WIDE + 4, FOUL + 6, BYE + 4, 6, RUN_OUT + 6);
            fieldsAre(x, 0, 1, 1 + 7 + 0 + 6 + 3, 0, 0);
        });
        test("promise 23, fields: outs by OUT alone", () -> {
            BallBook x = begun(5, OUT + 3, RUN_OUT, OUT);
            fieldsAre(x, 0, 1, 0, 2, 0);
        });
        test("promise 23, fields: an OVER that is not played is not begun", () -> {
            BallBook x = begun(5, 4);
            overOf(x, 1, 4);
            x.mend(0, 0, 0, 0, 255);
            fieldsAre(x, 0, 1, 0, 0, 0);
            fieldsAre(x, 1, 0, 0, 0, 1);
        });
    }

    private static void record() {
        test("promise 24, record: another sort, what", () -> {
            BallBook x = begun(2);
            none(() -> x.record(4, 0));
            none(() -> x.record(0, 6));
            for (int nowhere : NOWHERE) {
                none(() -> x.record(nowhere, 0));
                none(() -> x.record(3, nowhere));
            }
            is(x.record(3, 5), 0);
        });
        test("promise 24, record: NONE all if there is no TURN, of 3 if there is no SIDE", () -> {
            BallBook x = new BallBook();
            for (int sort = 0; sort < 4; sort++) {
                recordIs(x, sort, N, N, N, N, N, N);
            }
        });
        test("promise 24, record: the first SIDE brings 3, asked ahead of it and behind it", () -> {
            BallBook x = new BallBook();
            recordIs(x, 3, N, N, N, N, N, N);
            x.side(11);
            recordIs(x, 3, 0, N, N, 0, 0, 0);
        });
        test("promise 24, record: a GAME that is taken brings its own, asked ahead of it and behind it", () -> {
            BallBook x = begun(2, 4);
            int[] bytes = imageOf(x, 0);
            BallBook y = game(2, 1);
            recordIs(y, 0, N, N, N, N, N, N);
            is(taken(y, bytes), 1);
            recordIs(y, 0, 4, 1, 0, 0, 0, 0);
        });
        test("promise 24, record: a GAME without a TURN has none but of 3", () -> {
            BallBook x = game(2, 1);
            for (int sort = 0; sort < 3; sort++) {
                recordIs(x, sort, N, N, N, N, N, N);
            }
            recordIs(x, 3, 0, N, N, 0, 0, 0);
        });
        test("promise 24, record: a TURN without runs has records of 0", () -> {
            BallBook x = game(2, 1);
            x.turn(0);
            recordIs(x, 0, 0, 0, 0, 0, 0, 0);
            recordIs(x, 2, 0, 0, 0, 0, N, 0);
            recordIs(x, 3, 0, N, N, 0, 0, 0);
        });
        test("promise 24, record: where nobody has runs it is the PLAYER on SEAT 0", () -> {
            BallBook x = game(2, 1);
            x.seat(0, 0, 0, 7);
            x.turn(0);
            recordIs(x, 0, 0, 0, 0, 0, 7, 0);
        });
        test("promise 24, record: a PLAYER more, asked ahead of it and behind it, hides no run", () -> {
            BallBook x = begun(2, 4);
            recordIs(x, 0, 4, 0, 0, 0, 0, 0);
            balls(x, 2);
            is(x.player(0), 11);
            recordIs(x, 0, 6, 0, 0, 0, 0, 0);
            recordIs(x, 3, 6, N, N, 0, 0, 0);
        });
        test("promise 24, record: 1 is of those with an OVER", () -> {
            BallBook x = game(2, 1);
            x.turn(0);
            recordIs(x, 1, N, N, N, N, N, N);
            overOf(x, 10, 6);
            recordIs(x, 1, 0, 0, 0, 1, 10, 6);
        });
        test("promise 24, record: 1, fewest runs, where nobody has an out", () -> {
            BallBook x = begun(5, 4);
            overOf(x, 7, 3);
            recordIs(x, 1, 0, 0, 0, 1, 7, 3);
            overOf(x, 6);
            recordIs(x, 1, 0, 0, 0, 1, 6, 0);
        });
        test("promise 24, record: 1, most outs, then fewest runs", () -> {
            BallBook x = begun(5, OUT, 6);
            overOf(x, 7, 0);
            recordIs(x, 1, 1, 0, 0, 1, 0, 6);
            overOf(x, 8, OUT, 5);
            recordIs(x, 1, 1, 0, 0, 1, 8, 5);
            overOf(x, 9, OUT, OUT, 6, 6);
            recordIs(x, 1, 2, 0, 0, 1, 9, 12);
        });
        test("promise 24, record: undone without a TURN they are NONE again", () -> {
            BallBook x = begun(2, 4);
            recordIs(x, 0, 4, 0, 0, 0, 0, 0);
            x.undo();
            x.undo();
            x.undo();
            for (int sort = 0; sort < 3; sort++) {
                recordIs(x, sort, N, N, N, N, N, N);
            }
        });
        test("promise 24, record: what can't be counts for nothing", () -> {
            BallBook x = begun(5, 4, 6);
            recordIs(x, 0, 10, 0, 0, 0, 0, 0);
            x.put(0, 0, 0, 1, 255);
            recordIs(x, 0, 4, 0, 0, 0, 0, 0);
            recordIs(x, 2, 4, 0, 0, 0, N, 0);
            recordIs(x, 3, 4, N, N, 0, 0, 0);
            recordIs(x, 1, 0, 0, 0, 1, 0, 4);
        });
        test("promise 24, record: SIDE and PLAYER of each of four TURNS", () -> {
            for (int t = 0; t < 4; t++) {
                BallBook x = game(5, 2);
                x.seat(0, 0, 0, 7);
                x.seat(0, 1, 0, 11);
                for (int k = 0; k < t; k++) {
                    // the byes of TURN 0 keep TURN 3 from being WON ahead of the out
                    turnOf(x, 1, k == 0 ? BYE + 4 : NOTE, k == 0 ? BYE + 1 : NOTE, CLOSE);
                }
                turnOf(x, 0, FOUL + 4, OUT);
                int bats = t % 2;
                int batter = bats == 0 ? 7 : 11;
                int bowler = bats == 0 ? 11 : 7;
                recordIs(x, 0, 4, 0, t, bats, batter, 0);
                recordIs(x, 1, 1, 0, t, 1 - bats, bowler, 5);
                recordIs(x, 3, 4, N, N, bats, batter, 0);
            }
        });
        test("promise 24, record: of the last of 400 GAMES", () -> {
            BallBook x = game(2, 1);
            for (int k = 1; k < 400; k++) {
                x.toss(1, 0, 1, 1);
            }
            x.seat(399, 0, 0, 11);
            x.turn(399);
            x.over(399, 10);
            x.ball(399, 2);
            recordIs(x, 0, 2, 399, 0, 1, 11, 0);
            recordIs(x, 1, 0, 399, 0, 0, 10, 2);
            recordIs(x, 2, 2, 399, 0, 1, N, 0);
            recordIs(x, 3, 2, N, N, 1, 11, 0);
        });
        test("promise 24, record: of the last PLAYER of the last SIDE", () -> {
            BallBook x = new BallBook();
            for (int k = 0; k < 60; k++) {
                x.side(30);
            }
            x.toss(59, 0, 1, 1);
            x.seat(0, 0, 0, 29);
            turnOf(x, 0, 5);
            recordIs(x, 0, 5, 0, 0, 59, 29, 0);
            recordIs(x, 3, 5, N, N, 59, 29, 0);
        });
    }

    private static void recordOfLikes() {
        test("promise 24, record: of like ones the earlier SEAT", () -> {
            BallBook x = begun(5, 1, 1, 3, 3);
            // SEATS 0 and 1 have 4 each
            recordIs(x, 0, 4, 0, 0, 0, 0, 0);
            overOf(x, 9, OUT, 0);
            overOf(x, 4, OUT);
            recordIs(x, 1, 1, 0, 0, 1, 4, 0);
        });
        test("promise 24, record: of like ones the earlier TURN", () -> {
            BallBook x = game(5, 2);
            turnOf(x, 9, 4, OUT, CLOSE);
            turnOf(x, 0, 4, OUT, CLOSE);
            recordIs(x, 0, 4, 0, 0, 0, 0, 0);
            recordIs(x, 1, 1, 0, 0, 1, 9, 4);
            recordIs(x, 2, 4, 0, 0, 0, N, 0);
            x.mend(0, 0, 0, 0, 3);
            recordIs(x, 0, 4, 0, 1, 1, 0, 0);
            recordIs(x, 1, 1, 0, 0, 1, 9, 3);
            recordIs(x, 2, 4, 0, 1, 1, N, 0);
        });
        test("promise 24, record: of like ones the earlier GAME", () -> {
            BallBook x = begun(5, 4, OUT, CLOSE);
            x.toss(1, 0, 5, 1);
            x.turn(1);
            x.over(1, 0);
            x.ball(1, 4);
            x.ball(1, OUT);
            recordIs(x, 0, 4, 0, 0, 0, 0, 0);
            recordIs(x, 1, 1, 0, 0, 1, 0, 4);
            recordIs(x, 2, 4, 0, 0, 0, N, 0);
            x.ball(1, 1);
            recordIs(x, 2, 5, 1, 0, 1, N, 0);
        });
        test("promise 24, record: of like ones the earlier SIDE, then the earlier PLAYER", () -> {
            BallBook x = game(5, 1);
            x.toss(1, 0, 5, 1);
            x.seat(0, 0, 0, 8);
            x.turn(1);
            x.over(1, 0);
            x.ball(1, 4);
            recordIs(x, 3, 4, N, N, 1, 0, 0);
            turnOf(x, 0, 4);
            recordIs(x, 3, 4, N, N, 0, 8, 0);
            balls(x, BYE + 1, 4);
            recordIs(x, 3, 4, N, N, 0, 1, 0);
        });
        test("promise 24, record: 3 is a PLAYER's runs of all TURNS and GAMES", () -> {
            BallBook x = game(5, 2);
            turnOf(x, 0, 4, CLOSE);
            turnOf(x, 0, 6, CLOSE);
            turnOf(x, 0, 4, CLOSE);
            recordIs(x, 3, 8, N, N, 0, 0, 0);
            x.toss(0, 1, 5, 1);
            x.turn(1);
            x.over(1, 0);
            x.ball(1, 5);
            recordIs(x, 3, 13, N, N, 0, 0, 0);
            recordIs(x, 0, 6, 0, 1, 1, 0, 0);
        });
    }

    private static void image() {
        test("promise 25, image: no such GAME, and OUT stays", () -> {
            BallBook x = game(2, 1);
            is(x.image(1), N);
            is(x.list(4), 0);
            is(x.image(0), 28);
            is(x.image(1), N);
            for (int game : NOWHERE) {
                is(x.image(game), N);
            }
            is(x.list(4), 28);
            is(x.told(0), 66);
        });
        test("promise 25, image: without a TURN it has 28 bytes", () -> {
            BallBook x = new BallBook();
            for (int k = 0; k < 60; k++) {
                x.side(30);
            }
            x.toss(59, 58, 120, 2);
            x.seat(0, 0, 0, 29);
            x.seat(0, 1, 10, 29);
            int[] due = {66, 59, 58, 120, 2, 29, 1, 2, 3, 4, 5, 6, 7, 8, 9, 10, 0, 1, 2, 3, 4, 5, 6, 7, 8, 9, 29, 0};
            is(x.image(0), 28);
            for (int k = 0; k < 28; k++) {
                is(x.told(k), due[k]);
            }
        });
        test("promise 25, image: a TURN without OVERS, an empty ROW, a missing one, a full one", () -> {
            BallBook x = game(5, 1);
            x.turn(0);
            is(x.image(0), 31);
            is(x.told(27), 1);
            is(x.told(28), 0);
            overOf(x, 10);
            is(x.image(0), 33);
            is(x.told(28), 1);
            is(x.told(29), 10);
            is(x.told(30), 1);
            x.tear(0, 0, 0);
            is(x.image(0), 33);
            is(x.told(30), 0);
            x.open(0, 0, 0, 0);
            balls(x, times(40, DEAD));
            is(x.image(0), 73);
            is(x.told(30), 41);
            is(x.told(31), DEAD);
            is(x.told(70), DEAD);
        });
        test("promise 25, image: a score of two bytes, the high one first", () -> {
            BallBook x = begun(5, times(36, FOUL + 6));
            balls(x, 3);
            int size = x.image(0);
            is(x.told(size - 2), 0);
            is(x.told(size - 1), 255);
            x.mend(0, 0, 0, 36, 4);
            is(x.image(0), size);
            is(x.told(size - 2), 1);
            is(x.told(size - 1), 0);
        });
        test("promise 25, image: what can't be, too, with the score as far as it is played", () -> {
            BallBook x = begun(5, 4, 5);
            x.mend(0, 0, 0, 1, 255);
            x.bowls(0, 0, 0, 9);
            is(x.image(0), 35);
            is(x.told(29), 9);
            is(x.told(32), 255);
            is(x.told(34), 4);
        });
        test("promise 25, image: OUT becomes another one, shorter than the one ahead", () -> {
            BallBook x = begun(5, times(40, NOTE));
            x.toss(1, 0, 3, 2);
            is(x.image(0), 73);
            is(x.image(1), 28);
            is(x.list(4), 28);
            none(() -> x.told(28));
            is(x.told(1), 1);
        });
    }

    /** An image of 6,000 bytes: turn 0 of 120 full overs, turn 1 of 19 full ones and 64 empty ones. */
    private static int[] longest(BallBook x) {
        int[] bytes = new int[6000];
        int[] head = imageOf(x, 0);
        System.arraycopy(head, 0, bytes, 0, 27);
        int k = 27;
        bytes[k++] = 2;
        for (int t = 0; t < 2; t++) {
            int overs = t == 0 ? 120 : 83;
            bytes[k++] = overs;
            for (int o = 0; o < overs; o++) {
                boolean full = t == 0 || o < 19;
                bytes[k++] = o % 10;
                bytes[k++] = full ? 41 : 1;
                for (int i = 0; i < 40 && full; i++) {
                    bytes[k++] = t == 0 && o == 119 && i == 39 ? CLOSE : NOTE;
                }
            }
            k += 2;
        }
        is(k, 6000);
        return bytes;
    }

    private static void imageOfMost() {
        test("promise 25, image: 8,000 bytes are told, of 8,001 none, and OUT is empty then", () -> {
            BallBook x = game(120, 1);
            is(taken(x, longest(game(120, 1))), 1);
            for (int o = 19; o < 69; o++) {
                x.feed(0x70707070, 0x70707070, 0x70707070, 0x70707070, 0x70707070);
                x.feed(0x70707070, 0x70707070, 0x70707070, 0x70707070, 0x70707070);
                is(x.open(1, 1, o, 40), true);
            }
            is(x.image(1), 8000);
            is(x.list(4), 8000);
            is(x.told(7999), 0);
            none(() -> x.told(8000));
            is(x.put(1, 1, 82, 0, NOTE), true);
            is(x.image(2), N);
            is(x.list(4), 8000);
            is(x.image(1), N);
            is(x.list(4), 0);
            none(() -> x.told(0));
            x.undo();
            is(x.image(1), 8000);
        });
        test("promise 27, check: the whole tape of 6,000 bytes", () -> {
            BallBook x = game(120, 1);
            is(checked(x, longest(game(120, 1))), 0);
            is(x.list(2), 0);
        });
    }

    private static void told() {
        test("promise 26, told: there is none ahead of an image", () -> {
            BallBook x = game(2, 1);
            none(() -> x.told(0));
            for (int k : NOWHERE) {
                none(() -> x.told(k));
            }
        });
        test("promise 26, told: the first and the last byte, and none beside them", () -> {
            BallBook x = begun(2, 6);
            int size = x.image(0);
            is(size, 34);
            is(x.told(0), 66);
            is(x.told(33), 6);
            none(() -> x.told(34));
            for (int k : NOWHERE) {
                none(() -> x.told(k));
            }
        });
        test("promise 26, told: OUT stays while the GAME goes on", () -> {
            BallBook x = begun(2, 6);
            x.image(0);
            balls(x, 1);
            is(x.told(33), 6);
            is(x.list(4), 34);
        });
    }

    /** 44 bytes: 28 overs of turn 0, 29 bowler, 30 size, 31 .. 33 entries, 34 and 35 score, 36 overs of turn 1,
     * 37 bowler, 38 size (missing), 39 bowler, 40 size, 41 entry, 42 and 43 score. */
    private static int[] right() {
        BallBook x = begun(5, 4, WIDE + 4, CLOSE);
        turnOf(x, 2);
        x.tear(0, 1, 0);
        overOf(x, 1, 6);
        int[] bytes = imageOf(x, 0);
        is(bytes.length, 44);
        return bytes;
    }

    /** That one byte, and none ahead of it, is wrong: by check() and by take(). */
    private static void wrongAt(BallBook x, int place, int... bytes) {
        is(checked(x, bytes), place + 1);
        is(x.list(2), 0);
        int games = x.list(1);
        is(taken(x, bytes), -2 - place);
        is(x.list(2), 0);
        is(x.list(1), games);
    }

    private static void checkOfHead() {
        int[] right = right();
        BallBook x = game(5, 1);
        test("promise 27, check: 0, if it is right, and nothing comes", () -> {
            is(checked(x, right), 0);
            is(x.list(1), 1);
            is(x.list(2), 0);
            is(x.list(3), 0);
        });
        test("promise 27, check: the SIDES the other way round", () -> {
            BallBook y = game(5, 1);
            y.toss(1, 0, 5, 1);
            is(checked(y, imageOf(y, 1)), 0);
        });
        test("promise 27, check: a GAME that was asked for stays as it is", () -> {
            BallBook y = game(5, 1);
            turnOf(y, 3, 1);
            scoreIs(y, 0, 0, 1);
            is(checked(y, right), 0);
            scoreIs(y, 0, 0, 1);
            nowIs(y, 0, 0);
            nowIs(y, 3, 3);
        });
        test("promise 27, check: -1, and nothing changes: n is below 0", () -> {
            x.feed(1, 1, 1, 1, 1);
            is(x.check(-1), -1);
            is(x.check(LEAST), -1);
            is(x.list(2), 20);
        });
        test("promise 27, check: -1, and nothing changes: the tape has not so many", () -> {
            is(x.check(21), -1);
            is(x.check(MOST), -1);
            is(x.list(2), 20);
            is(x.check(20), 1);
            is(x.list(2), 0);
            is(x.check(1), -1);
        });
        test("promise 27, check: no bytes at all end too soon", () -> {
            is(x.check(0), 1);
            x.feed(0x42000000, 0, 0, 0, 0);
            is(x.check(0), 1);
            is(x.list(2), 0);
        });
        test("promise 27, check: the bytes end too soon, wherever: n and 1", () -> {
            BallBook y = game(5, 1);
            for (int n = 0; n < 44; n++) {
                is(checked(y, cut(right, n)), n + 1);
            }
        });
        test("promise 27, check: a byte more than is wanted", () -> {
            wrongAt(x, 44, cut(right, 45));
            wrongAt(x, 44, with(cut(right, 60), 59, 255));
            wrongAt(x, 44, with(cut(right, 45), 35, 0));
            wrongAt(x, 44, with(cut(right, 45), 41, 255));
        });
        test("promise 27, check: the first byte is not 66", () -> {
            wrongAt(x, 0, with(right, 0, 65));
            wrongAt(x, 0, with(right, 0, 67));
            wrongAt(x, 0, 0);
        });
        test("promise 27, check: SIDES that there are not", () -> {
            wrongAt(x, 1, with(right, 1, 2));
            wrongAt(x, 1, with(right, 1, 255));
            wrongAt(x, 2, with(right, 2, 2));
            wrongAt(x, 2, with(right, 2, 255));
            wrongAt(new BallBook(), 1, right);
        });
        test("promise 27, check: both SIDES are one", () -> {
            wrongAt(x, 2, with(right, 2, 0));
            wrongAt(x, 2, with(right, 1, 1));
        });
        test("promise 27, check: OVERS not 1 .. 120", () -> {
            wrongAt(x, 3, with(right, 3, 0));
            wrongAt(x, 3, with(right, 3, 121));
            wrongAt(x, 3, with(right, 3, 255));
            is(checked(x, with(right, 3, 120)), 0);
        });
        test("promise 27, check: OVERS of 1 can be where one is begun", () -> {
            BallBook y = begun(1, 4, CLOSE);
            is(checked(y, imageOf(y, 0)), 0);
        });
        test("promise 27, check: TURNS of each not 1, 2", () -> {
            wrongAt(x, 4, with(right, 4, 0));
            wrongAt(x, 4, with(right, 4, 3));
            wrongAt(x, 4, with(right, 4, 255));
            is(checked(x, with(right, 4, 2)), 0);
        });
        test("promise 27, check: a PLAYER that the SIDE hasn't", () -> {
            wrongAt(x, 5, with(right, 5, 11));
            wrongAt(x, 15, with(right, 15, 255));
            wrongAt(x, 16, with(right, 16, 12));
            wrongAt(x, 26, with(right, 26, 12));
            is(checked(x, with(right, 26, 11)), 0);
        });
        test("promise 27, check: a PLAYER that has come since can be", () -> {
            BallBook y = game(5, 1);
            wrongAt(y, 15, with(right, 15, 11));
            y.player(0);
            is(checked(y, with(right, 15, 11)), 0);
        });
        test("promise 27, check: a PLAYER a second time, of one side alone", () -> {
            wrongAt(x, 6, with(right, 6, 0));
            wrongAt(x, 15, with(right, 15, 0));
            wrongAt(x, 15, with(right, 5, 10));
            wrongAt(x, 26, with(right, 26, 9));
            wrongAt(x, 17, with(right, 16, 1));
        });
    }

    private static void checkOfTurns() {
        int[] right = right();
        BallBook x = game(5, 1);
        test("promise 27, check: TURNS above 2 with one of each, above 4 with two", () -> {
            wrongAt(x, 27, with(right, 27, 3));
            wrongAt(x, 27, with(right, 27, 255));
            int[] two = with(right, 4, 2);
            wrongAt(x, 27, with(two, 27, 5));
            wrongAt(x, 44, with(two, 27, 3));
            wrongAt(x, 44, with(two, 27, 4));
            wrongAt(x, 28, with(right, 27, 0));
            is(checked(x, with(cut(right, 28), 27, 0)), 0);
        });
        test("promise 27, check: four TURNS with two of each are right", () -> {
            BallBook y = game(5, 2);
            for (int t = 0; t < 4; t++) {
                turnOf(y, 0, 1, CLOSE);
            }
            is(checked(y, imageOf(y, 0)), 0);
        });
        test("promise 27, check: a TURN without OVERS is right", () -> {
            BallBook y = game(5, 1);
            y.turn(0);
            is(checked(y, imageOf(y, 0)), 0);
            is(taken(y, imageOf(y, 0)), 1);
        });
        test("promise 27, check: OVERS of a TURN above 130", () -> {
            wrongAt(x, 28, with(right, 28, 131));
            wrongAt(x, 28, with(right, 28, 255));
            wrongAt(x, 36, with(right, 36, 131));
        });
        test("promise 27, check: 130 OVERS can stand there, but not by PLAY", () -> {
            BallBook y = game(120, 1);
            int[] bytes = cut(imageOf(y, 0), 28 + 1 + 260 + 2);
            bytes[27] = 1;
            bytes[28] = 130;
            for (int o = 0; o < 130; o++) {
                bytes[29 + 2 * o] = o % 10;
                bytes[30 + 2 * o] = 1;
            }
            wrongAt(y, 29 + 240, bytes);
            wrongAt(y, 28 + 1 + 260 + 2, cut(bytes, bytes.length + 1));
        });
        test("promise 27, check: a BOWLER above 15", () -> {
            wrongAt(x, 29, with(right, 29, 16));
            wrongAt(x, 37, with(right, 37, 255));
            wrongAt(x, 39, with(right, 39, 16));
            wrongAt(x, 29, with(with(right, 29, 16), 30, 42));
        });
        test("promise 27, check: a BOWLER of 15 can stand there, but not by PLAY", () -> {
            wrongAt(x, 29, with(right, 29, 15));
            wrongAt(x, 40, with(with(right, 29, 15), 40, 42));
        });
        test("promise 27, check: ENTRIES above 41", () -> {
            wrongAt(x, 30, with(right, 30, 42));
            wrongAt(x, 30, with(right, 30, 255));
            wrongAt(x, 38, with(right, 38, 42));
            wrongAt(x, 44, with(right, 40, 41));
        });
        test("promise 27, check: a ROW of 40 ENTRIES is right", () -> {
            BallBook y = begun(5, times(40, NOTE + 15));
            is(checked(y, imageOf(y, 0)), 0);
        });
        test("promise 27, check: the first byte that can't stand there is told, not a later one", () -> {
            wrongAt(x, 0, with(with(right, 0, 0), 1, 255));
            wrongAt(x, 1, with(with(right, 1, 255), 2, 255));
            wrongAt(x, 5, with(with(right, 5, 99), 27, 99));
            wrongAt(x, 29, with(with(right, 29, 99), 30, 99));
        });
    }

    private static void checkByPlay() {
        int[] right = right();
        BallBook x = game(5, 1);
        test("promise 27, check: by PLAY a TURN that can't be is its number of OVERS", () -> {
            wrongAt(x, 36, with(right, 33, NOTE));
            BallBook y = game(1, 2);
            for (int t = 0; t < 4; t++) {
                turnOf(y, 0, 1, CLOSE);
            }
            int[] bytes = imageOf(y, 0);
            // each TURN has 7 bytes; with 3 runs in TURN 1 side 1 has WON behind TURN 2
            is(bytes.length, 28 + 4 * 7);
            wrongAt(y, 28 + 21, with(with(bytes, 28 + 10, 3), 28 + 13, 3));
        });
        test("promise 27, check: by PLAY an OVER that can't be is its BOWLER", () -> {
            wrongAt(x, 29, with(right, 29, 11));
            wrongAt(x, 29, with(right, 29, 15));
            wrongAt(x, 39, with(right, 39, 2));
        });
        test("promise 27, check: by PLAY an ENTRY that can't be is that", () -> {
            wrongAt(x, 31, with(right, 31, 7));
            wrongAt(x, 32, with(right, 32, 255));
            wrongAt(x, 32, with(right, 31, CLOSE));
            wrongAt(x, 41, with(right, 41, 160));
        });
        test("promise 27, check: what can't stand there goes ahead of what can't be by PLAY", () -> {
            wrongAt(x, 40, with(with(right, 31, 7), 40, 42));
            wrongAt(x, 43, cut(with(right, 31, 7), 43));
        });
        test("promise 27, check: what can't be by PLAY goes ahead of scores", () -> {
            wrongAt(x, 41, with(with(right, 35, 8), 41, 7));
            wrongAt(x, 41, with(with(right, 34, 255), 41, 7));
        });
        test("promise 27, check: the first of the bytes of scores that is another one", () -> {
            wrongAt(x, 34, with(right, 34, 1));
            wrongAt(x, 35, with(right, 35, 8));
            wrongAt(x, 34, with(with(right, 34, 255), 35, 0));
            wrongAt(x, 42, with(right, 42, 255));
            wrongAt(x, 43, with(right, 43, 0));
            wrongAt(x, 35, with(with(right, 43, 0), 35, 0));
            wrongAt(x, 35, with(with(right, 42, 1), 35, 10));
        });
        test("promise 27, check: scores of 255 and 256", () -> {
            BallBook y = begun(5, times(36, FOUL + 6));
            balls(y, 3);
            int[] low = imageOf(y, 0);
            int size = low.length;
            is(checked(y, low), 0);
            wrongAt(y, size - 2, with(with(low, size - 2, 1), size - 1, 0));
            y.mend(0, 0, 0, 36, 4);
            int[] high = imageOf(y, 0);
            is(checked(y, high), 0);
            wrongAt(y, size - 2, with(with(high, size - 2, 0), size - 1, 255));
            wrongAt(y, size - 1, with(high, size - 1, 1));
        });
    }

    private static void take() {
        int[] right = right();
        test("promise 28, take: NONE, and nothing changes: n is below 0, the tape has not so many", () -> {
            BallBook x = game(5, 1);
            feedBytes(x, right);
            is(x.take(-1), N);
            is(x.take(LEAST), N);
            is(x.take(61), N);
            is(x.take(MOST), N);
            is(x.list(2), 60);
            is(x.list(1), 1);
            is(x.take(44), 1);
            is(x.list(2), 0);
            is(x.take(1), N);
        });
        test("promise 28, take: no bytes at all: -2, less the place 0", () -> {
            BallBook x = game(5, 1);
            is(x.take(0), -2);
            is(x.list(1), 1);
        });
        test("promise 28, take: the bytes end too soon: the place is n", () -> {
            BallBook x = game(5, 1);
            for (int n = 0; n < 44; n++) {
                is(taken(x, cut(right, n)), -2 - n);
            }
            is(x.list(1), 1);
        });
        test("promise 28, take: the same GAME once more, and one that goes on alone", () -> {
            BallBook x = begun(5, 4, WIDE + 4, CLOSE);
            turnOf(x, 2);
            x.tear(0, 1, 0);
            overOf(x, 1, 6);
            is(taken(x, right), 1);
            is(x.sum(1), x.sum(0));
            is(x.overs(1, 1, 0, 1), N);
            is(x.ball(1, 1), true);
            is(x.score(1, 1, 0), 7);
            is(x.score(0, 1, 0), 6);
            is(x.undo(), 1);
            is(x.sum(1), x.sum(0));
            is(x.seat(1, 0, 0, 0), false);
        });
        test("promise 28, take: a GAME without a TURN can change its SEATS", () -> {
            BallBook x = game(5, 1);
            is(taken(x, imageOf(x, 0)), 1);
            is(x.seat(1, 0, 0, 4), true);
            is(x.image(0), 28);
            is(x.told(5), 0);
        });
        test("promise 28, take: the 400th comes; then NONE, and nothing changes", () -> {
            BallBook x = game(5, 1);
            for (int k = 1; k < 399; k++) {
                x.toss(0, 1, 1, 1);
            }
            is(taken(x, right), 399);
            feedBytes(x, right);
            is(x.take(44), N);
            is(x.take(0), N);
            is(x.list(2), 60);
            is(x.list(1), 400);
            is(x.check(44), 0);
        });
    }

    private static void list() {
        test("promise 29, list: another what", () -> {
            BallBook x = game(5, 1);
            none(() -> x.list(7));
            none(() -> x.list(-5));
            for (int what : NOWHERE) {
                none(() -> x.list(what));
            }
            none(() -> x.list(LEAST + 5));
        });
        test("promise 29, list: without SIDES 5 is another what", () -> {
            BallBook x = new BallBook();
            is(x.list(4), 0);
            none(() -> x.list(5));
        });
        test("promise 29, list: all at their most", () -> {
            BallBook x = new BallBook();
            for (int k = 0; k < 60; k++) {
                x.side(30);
            }
            x.toss(0, 1, 1, 1);
            turnOf(x, 0, times(40, NOTE));
            for (int k = 0; k < 300; k++) {
                x.feed(0, 0, 0, 0, 0);
            }
            is(x.list(0), 60);
            is(x.list(2), 6000);
            is(x.list(3), 40);
            is(x.list(5), 30);
            is(x.list(64), 30);
            none(() -> x.list(65));
        });
        test("promise 29, list: 3 goes down with undo()", () -> {
            BallBook x = begun(5, 4);
            is(x.list(3), 3);
            x.undo();
            is(x.list(3), 2);
            x.undo();
            x.undo();
            x.undo();
            is(x.list(3), 0);
        });
    }

    /** The sum without bounds, brought down to 64 bits at its end alone. */
    private static long sumWithoutBounds(BallBook x, int turns) {
        BigInteger all = BigInteger.ZERO;
        BigInteger times = BigInteger.valueOf(31);
        for (int what = 0; what < 15; what++) {
            all = all.multiply(times).add(BigInteger.valueOf(x.now(0, what)));
        }
        for (int turn = 0; turn < turns; turn++) {
            for (int what = 0; what < 16; what++) {
                all = all.multiply(times).add(BigInteger.valueOf(x.score(0, turn, what)));
            }
            for (int seat = 0; seat < 11; seat++) {
                for (int what = 0; what < 8; what++) {
                    int next = what < 4 ? x.bats(0, turn, seat, what) : x.fields(0, turn, seat, what - 4);
                    all = all.multiply(times).add(BigInteger.valueOf(next));
                }
            }
        }
        return all.longValue();
    }

    private static void sum() {
        test("promise 30, sum: no such GAME", () -> {
            BallBook x = game(5, 1);
            none(() -> x.sum(1));
            for (int game : NOWHERE) {
                none(() -> x.sum(game));
            }
        });
        test("promise 30, sum: without a TURN it is now() alone", () -> {
            BallBook x = game(5, 1);
            is(x.sum(0), sumWithoutBounds(x, 0));
        });
        test("promise 30, sum: one TURN, over the edge of 64 bits", () -> {
            BallBook x = begun(5, 4, OUT + 1, WIDE + 3);
            is(x.sum(0), sumWithoutBounds(x, 1));
        });
        test("promise 30, sum: four TURNS", () -> {
            BallBook x = game(5, 2);
            for (int t = 0; t < 4; t++) {
                turnOf(x, t, 4 - t, OUT + t, CLOSE);
            }
            is(x.sum(0), sumWithoutBounds(x, 4));
        });
        test("promise 30, sum: a TURN on THE PAGE that is not played, too", () -> {
            BallBook x = begun(5, 4, CLOSE);
            turnOf(x, 0, 4);
            x.mend(0, 0, 0, 1, NOTE);
            is(x.sum(0), sumWithoutBounds(x, 2));
        });
    }
}

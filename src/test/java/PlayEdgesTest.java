/** Terms 1 to 3, what play makes of a page (promises 6 to 8, 17 to 20): a test for each boundary case they name. */
public final class PlayEdgesTest extends BookTest {
    public static void main(String[] args) {
        entries();
        whatCounts();
        whoFaces();
        whoLeaves();
        wholeOvers();
        endsOfTurns();
        rulesOfTurns();
        rulesOfOvers();
        rulesOfEntries();
        playStops();
        rain();
        means();
        target();
        winners();
        winnersOfTwo();
        end();
    }

    private static BallBook begun(int overs) {
        BallBook x = game(overs, 1);
        turnOf(x, 0);
        return x;
    }

    /** Whole overs without runs; of ten bowlers none bowls twice on end. */
    private static void dots(BallBook x, int from, int overs) {
        for (int o = from; o < from + overs; o++) {
            overOf(x, o % 10, 0, 0, 0, 0, 0, 0);
        }
    }

    /** Takes overs away, at most 15 by an entry. */
    private static void rainOf(BallBook x, int overs) {
        for (int left = overs; left > 0; left -= 15) {
            balls(x, RAIN + Math.min(left, 15));
        }
    }

    private static void vIs(int kind, int least, int most) {
        for (int v = 0; v < 16; v++) {
            BallBook x = begun(120);
            boolean can = v >= least && v <= most;
            is(x.ball(0, 16 * kind + v), can);
            is(x.why(), can ? 0 : 7);
            BallBook y = begun(120);
            y.put(0, 0, 0, 0, 16 * kind + v);
            cannot(y, can ? 0 : 7, can ? N : 0, can ? N : 0, can ? N : 0);
        }
    }

    private static void entries() {
        test("promise 8, ball; terms 1, rule 7: BALL has v 0 .. 6", () -> vIs(0, 0, 6));
        test("promise 8, ball; terms 1, rule 7: WIDE has v 0 .. 4", () -> vIs(1, 0, 4));
        test("promise 8, ball; terms 1, rule 7: FOUL has v 0 .. 6", () -> vIs(2, 0, 6));
        test("promise 8, ball; terms 1, rule 7: OUT has v 0 .. 3", () -> vIs(3, 0, 3));
        test("promise 8, ball; terms 1, rule 7: RUN OUT has v 0 .. 7", () -> vIs(4, 0, 7));
        test("promise 8, ball; terms 1, rule 7: DEAD has any v", () -> vIs(5, 0, 15));
        test("promise 8, ball; terms 1, rule 7: BYE has v 1 .. 4", () -> vIs(6, 1, 4));
        test("promise 8, ball; terms 1, rule 7: NOTE has any v", () -> vIs(7, 0, 15));
        test("promise 8, ball; terms 1, rule 7: RAIN has v 1 .. 15", () -> vIs(8, 1, 15));
        test("promise 8, ball; terms 1, rule 7: CLOSE has v 0 alone", () -> vIs(9, 0, 0));
        test("promise 8, ball; terms 1, rule 7: there is no b / 16 above 9", () -> {
            for (int kind = 10; kind < 16; kind++) {
                vIs(kind, 16, 16);
            }
        });
    }

    /** Of one entry: the score, the extras, runs of seat 0, runs of the bowler, and what counts in the over. */
    private static void makes(int entry, int score, int extras, int ofBat, int ofBowler, int counts) {
        BallBook x = begun(120);
        balls(x, entry);
        scoreIs(x, 0, 0, score);
        scoreIs(x, 0, 4, extras);
        is(x.bats(0, 0, 0, 0), ofBat);
        is(x.fields(0, 0, 0, 1), ofBowler);
        scoreIs(x, 0, 3, counts);
        is(x.overs(0, 0, 0, 2), score);
        is(x.overs(0, 0, 0, 4), counts);
        for (int sum = 11; sum < 14; sum++) {
            scoreIs(x, 0, sum, score);
        }
    }

    private static void whatCounts() {
        test("promise 19, score; terms 1: BALL of 0 and of 6", () -> {
            makes(0, 0, 0, 0, 0, 1);
            makes(6, 6, 0, 6, 6, 1);
        });
        test("promise 19, score; terms 1: WIDE of 0 and of 4", () -> {
            makes(WIDE, 1, 1, 0, 1, 0);
            makes(WIDE + 4, 5, 5, 0, 1, 0);
        });
        test("promise 19, score; terms 1: FOUL of 0 and of 6", () -> {
            makes(FOUL, 1, 1, 0, 1, 0);
            makes(FOUL + 6, 7, 1, 6, 7, 0);
        });
        test("promise 19, score; terms 1: OUT of 0 and of 3", () -> {
            makes(OUT, 0, 0, 0, 0, 1);
            makes(OUT + 3, 0, 0, 0, 0, 1);
        });
        test("promise 19, score; terms 1: RUN OUT of 0, 1, 2 and 7", () -> {
            makes(RUN_OUT, 0, 0, 0, 0, 1);
            makes(RUN_OUT + 1, 0, 0, 0, 0, 1);
            makes(RUN_OUT + 2, 1, 0, 1, 1, 1);
            makes(RUN_OUT + 7, 3, 0, 3, 3, 1);
        });
        test("promise 19, score; terms 1: BYE of 1 and of 4", () -> {
            makes(BYE + 1, 1, 1, 0, 0, 1);
            makes(BYE + 4, 4, 4, 0, 0, 1);
        });
        test("promise 19, score; terms 1: DEAD, NOTE, RAIN and CLOSE make nothing and don't count", () -> {
            makes(DEAD + 1, 0, 0, 0, 0, 0);
            makes(NOTE + 15, 0, 0, 0, 0, 0);
            makes(RAIN + 15, 0, 0, 0, 0, 0);
            makes(CLOSE, 0, 0, 0, 0, 0);
        });
    }

    private static void crosses(int entry, boolean other) {
        BallBook x = begun(120);
        balls(x, entry);
        nowIs(x, 1, other ? 1 : 0);
        nowIs(x, 2, other ? 0 : 1);
    }

    /** Who faces and who is in besides behind a run out as the first ball. */
    private static void runOut(int v, int faces, int other, int out) {
        BallBook x = begun(120);
        balls(x, RUN_OUT + v);
        nowIs(x, 1, faces);
        nowIs(x, 2, other);
        is(x.bats(0, 0, out, 2), 6);
        is(x.bats(0, 0, 1 - out, 2), 1);
        is(x.bats(0, 0, 2, 2), 1);
    }

    private static void whoFaces() {
        test("promise 18, now; terms 2: SEATS 0 and 1 are in, 0 faces, in each TURN", () -> {
            BallBook x = begun(120);
            balls(x, 1, CLOSE);
            x.turn(0);
            nowIs(x, 1, 0);
            nowIs(x, 2, 1);
            is(x.bats(0, 1, 0, 2), 1);
            is(x.bats(0, 1, 1, 2), 1);
            is(x.bats(0, 1, 2, 2), 0);
        });
        test("promise 18, now; terms 2: odd runs of a BALL or FOUL bring the other one", () -> {
            for (int v = 0; v <= 6; v++) {
                crosses(v, v % 2 == 1);
                crosses(FOUL + v, v % 2 == 1);
            }
        });
        test("promise 18, now; terms 2: odd runs of a WIDE or BYE bring the other one, the WIDE's own run does not", () -> {
            for (int v = 0; v <= 4; v++) {
                crosses(WIDE + v, v % 2 == 1);
                crosses(BYE + Math.max(v, 1), Math.max(v, 1) % 2 == 1);
            }
        });
        test("promise 18, now; terms 2: the v of DEAD, NOTE, RAIN brings nobody", () -> {
            crosses(DEAD + 1, false);
            crosses(NOTE + 15, false);
            crosses(RAIN + 1, false);
        });
        test("promise 18, now; terms 1, RUN OUT: even v, the one who faces then leaves", () -> {
            runOut(0, 2, 1, 0);
            runOut(2, 2, 0, 1);
            runOut(4, 2, 1, 0);
            runOut(6, 2, 0, 1);
        });
        test("promise 18, now; terms 1, RUN OUT: odd v, the other one then leaves", () -> {
            runOut(1, 0, 2, 1);
            runOut(3, 1, 2, 0);
            runOut(5, 0, 2, 1);
            runOut(7, 1, 2, 0);
        });
        test("promise 18, now; terms 2: behind the sixth that counts the other one faces, behind the fifth not", () -> {
            BallBook x = begun(2);
            balls(x, 0, 0, 0, 0, 0);
            nowIs(x, 1, 0);
            balls(x, 0);
            nowIs(x, 1, 1);
            balls(x, NOTE);
            nowIs(x, 1, 1);
            x.over(0, 1);
            nowIs(x, 1, 1);
        });
        test("promise 18, now; terms 2: an odd run with the sixth brings the same one back", () -> {
            BallBook x = begun(2);
            balls(x, 0, 0, 0, 0, 0, 1);
            nowIs(x, 1, 0);
            nowIs(x, 2, 1);
        });
    }

    private static void whoLeaves() {
        test("promise 18, now; terms 2: OUT, the next SEAT comes where that one stood", () -> {
            BallBook x = begun(120);
            balls(x, 1, OUT + 1);
            nowIs(x, 1, 2);
            nowIs(x, 2, 0);
            is(x.bats(0, 0, 1, 2), 3);
        });
        test("promise 18, now; terms 2: with the ninth out SEAT 10 comes, with the tenth nobody does", () -> {
            BallBook x = begun(120);
            balls(x, times(6, OUT));
            overOf(x, 1, OUT, OUT, OUT);
            scoreIs(x, 0, 1, 9);
            nowIs(x, 1, 10);
            // SEAT 7 came last in the first OVER and is the other one since
            nowIs(x, 2, 7);
            nowIs(x, 5, 0);
            is(x.bats(0, 0, 10, 2), 1);
            balls(x, OUT);
            nowIs(x, 1, N);
            nowIs(x, 2, 7);
            nowIs(x, 5, 1);
            scoreIs(x, 0, 1, 10);
            is(x.bats(0, 0, 7, 2), 1);
        });
        test("promise 18, now; terms 2: where the other one is the tenth, nobody is the other one", () -> {
            BallBook x = begun(120);
            balls(x, times(6, OUT));
            overOf(x, 1, OUT, OUT, OUT, RUN_OUT + 1);
            nowIs(x, 1, 10);
            nowIs(x, 2, N);
            is(x.bats(0, 0, 7, 2), 6);
            is(x.bats(0, 0, 10, 2), 1);
        });
        test("promise 18, now; terms 2: the tenth out with the sixth ball: the OVER is whole, the other one faces", () -> {
            BallBook x = begun(120);
            balls(x, times(6, OUT));
            overOf(x, 1, 0, 0, OUT, OUT, OUT, OUT);
            nowIs(x, 1, 7);
            nowIs(x, 2, N);
            scoreIs(x, 0, 2, 2);
            scoreIs(x, 0, 6, 1);
        });
    }

    private static void wholeOvers() {
        test("promise 20, overs; terms 2: an OVER is whole by its sixth that counts, and not OPEN", () -> {
            BallBook x = begun(2);
            balls(x, 0, OUT, RUN_OUT, BYE + 1, 0);
            is(x.overs(0, 0, 0, 5), 0);
            scoreIs(x, 0, 2, 0);
            scoreIs(x, 0, 3, 5);
            balls(x, WIDE, FOUL, DEAD, NOTE);
            is(x.overs(0, 0, 0, 5), 0);
            balls(x, 0);
            is(x.overs(0, 0, 0, 5), 1);
            is(x.overs(0, 0, 0, 6), 0);
            is(x.overs(0, 0, 0, 4), 6);
            scoreIs(x, 0, 2, 1);
            scoreIs(x, 0, 3, 0);
            scoreIs(x, 0, 7, 0);
        });
        test("promise 20, overs; terms 2: one that is missing is OPEN, and whole at once", () -> {
            BallBook x = begun(2);
            x.tear(0, 0, 0);
            is(x.overs(0, 0, 0, 5), 1);
            is(x.overs(0, 0, 0, 6), 1);
            is(x.overs(0, 0, 0, 4), 0);
            scoreIs(x, 0, 2, 1);
            scoreIs(x, 0, 7, 1);
            nowIs(x, 4, 6);
            nowIs(x, 1, 1);
        });
        test("promise 20, overs; terms 2: one that hasn't six is OPEN and whole only where another OVER follows", () -> {
            BallBook x = begun(2);
            balls(x, 0, 0, 0, 0, 0);
            is(x.overs(0, 0, 0, 5), 0);
            is(x.overs(0, 0, 0, 6), 0);
            nowIs(x, 4, 7);
            x.over(0, 1);
            is(x.overs(0, 0, 0, 5), 1);
            is(x.overs(0, 0, 0, 6), 1);
            is(x.overs(0, 0, 0, 4), 5);
            is(x.overs(0, 0, 1, 5), 0);
            scoreIs(x, 0, 7, 1);
            nowIs(x, 4, 6);
            nowIs(x, 1, 1);
        });
        test("promise 20, overs; terms 2: an empty ROW is OPEN where another OVER follows", () -> {
            BallBook x = begun(2);
            is(x.overs(0, 0, 0, 6), 0);
            x.over(0, 1);
            is(x.overs(0, 0, 0, 6), 1);
            nowIs(x, 1, 1);
            nowIs(x, 4, 6);
        });
        test("promise 20, overs; terms 2: an OVER of six is not OPEN, though another one follows", () -> {
            BallBook x = begun(3);
            balls(x, 0, 0, 0, 0, 0, 0);
            x.over(0, 1);
            is(x.overs(0, 0, 0, 6), 0);
            scoreIs(x, 0, 7, 0);
            scoreIs(x, 0, 2, 1);
        });
        test("promise 20, overs; terms 2: the last OVER of a TURN that ended is not OPEN by the next TURN", () -> {
            BallBook x = begun(2);
            balls(x, 0, CLOSE);
            x.turn(0);
            is(x.overs(0, 0, 0, 5), 0);
            is(x.overs(0, 0, 0, 6), 0);
            scoreIs(x, 0, 3, 1);
        });
        test("promise 20, overs; terms 2: one that follows but can't be makes nothing whole", () -> {
            BallBook x = begun(3);
            balls(x, 0);
            x.over(0, 1);
            is(x.overs(0, 0, 0, 6), 1);
            x.bowls(0, 0, 1, 0);
            is(x.overs(0, 0, 0, 6), 0);
            is(x.overs(0, 0, 0, 5), 0);
            nowIs(x, 4, 17);
        });
    }

    private static void endsOfTurns() {
        test("promise 19, score; terms 2: a TURN ends (1) by its tenth out, not by the ninth", () -> {
            BallBook x = begun(120);
            balls(x, times(6, OUT));
            overOf(x, 1, OUT, OUT, OUT);
            scoreIs(x, 0, 6, 0);
            balls(x, RUN_OUT);
            scoreIs(x, 0, 6, 1);
        });
        test("promise 19, score; terms 2: a TURN ends (2) when as many OVERS as ALLOWED are whole", () -> {
            BallBook x = begun(2);
            balls(x, 0, 0, 0, 0, 0, 0);
            scoreIs(x, 0, 6, 0);
            overOf(x, 1, 0, 0, 0, 0, 0);
            scoreIs(x, 0, 6, 0);
            balls(x, 0);
            scoreIs(x, 0, 6, 2);
            nowIs(x, 4, 0);
        });
        test("promise 19, score; terms 2: a TURN of 120 OVERS ends with the 120th", () -> {
            BallBook x = game(120, 1);
            x.turn(0);
            for (int o = 0; o < 120; o++) {
                overOf(x, o % 5);
            }
            scoreIs(x, 0, 6, 0);
            scoreIs(x, 0, 2, 119);
            nowIs(x, 4, 6);
            refusedBy(x, x.over(0, 9), 3);
            x.tear(0, 0, 119);
            scoreIs(x, 0, 6, 2);
            scoreIs(x, 0, 7, 120);
            nowIs(x, 4, 0);
            is(x.overs(0, 0, 119, 7), 1);
        });
        test("promise 19, score; terms 2: a TURN ends (2) by a missing OVER, too", () -> {
            BallBook x = begun(1);
            scoreIs(x, 0, 6, 0);
            x.tear(0, 0, 0);
            scoreIs(x, 0, 6, 2);
            is(x.turn(0), true);
        });
        test("promise 19, score; terms 2: a TURN ends (3) by CLOSE, even as its first ENTRY", () -> {
            BallBook x = begun(120);
            balls(x, CLOSE);
            scoreIs(x, 0, 6, 3);
            nowIs(x, 5, 3);
            nowIs(x, 9, 0);
        });
        test("promise 19, score; terms 2: a TURN ends (3) by CLOSE behind the sixth that counts", () -> {
            BallBook x = begun(2);
            balls(x, 0, 0, 0, 0, 0, 0, CLOSE);
            scoreIs(x, 0, 6, 3);
        });
        test("promise 19, score; terms 2: the tenth out with the last ball of all is 1, not 2", () -> {
            BallBook x = begun(2);
            balls(x, times(6, OUT));
            overOf(x, 1, 0, 0, OUT, OUT, OUT, OUT);
            scoreIs(x, 0, 6, 1);
            scoreIs(x, 0, 2, 2);
        });
        test("promise 19, score; terms 2: WON with the last ball of all is 4, not 2", () -> {
            BallBook x = begun(1);
            balls(x, CLOSE);
            turnOf(x, 0, 0, 0, 0, 0, 0, 1);
            scoreIs(x, 1, 6, 4);
            scoreIs(x, 1, 2, 1);
        });
        test("promise 19, score; terms 2: WON with the tenth out is 4, not 1", () -> {
            BallBook x = begun(2);
            balls(x, CLOSE);
            turnOf(x, 0, times(6, OUT));
            overOf(x, 1, OUT, OUT, OUT, RUN_OUT + 2);
            scoreIs(x, 1, 6, 4);
            scoreIs(x, 1, 1, 10);
            nowIs(x, 10, 2);
        });
        test("promise 19, score; terms 2: the GAME is over when its last TURN has ended, not the one ahead", () -> {
            BallBook x = begun(1);
            balls(x, 1, CLOSE);
            nowIs(x, 10, 0);
            turnOf(x, 0, 0);
            nowIs(x, 10, 0);
            balls(x, CLOSE);
            nowIs(x, 10, 1);
        });
    }

    private static void rulesOfTurns() {
        test("promise 6, turn; rule 1: of a TURN on THE PAGE, the one ahead has not ended", () -> {
            BallBook x = begun(1);
            balls(x, CLOSE);
            turnOf(x, 0, 0);
            x.mend(0, 0, 0, 0, NOTE);
            cannot(x, 1, 1, N, N);
            nowIs(x, 0, 0);
            scoreIs(x, 1, 9, 0);
        });
        test("promise 6, turn; rule 2: of a TURN on THE PAGE, the GAME is WON by a TURN", () -> {
            BallBook x = game(1, 2);
            turnOf(x, 0, CLOSE);
            turnOf(x, 0, 1, CLOSE);
            turnOf(x, 0, 1, CLOSE);
            turnOf(x, 0, 0);
            cannot(x, 0, N, N, N);
            x.mend(0, 2, 0, 0, 0);
            cannot(x, 2, 3, N, N);
            nowIs(x, 0, 2);
            nowIs(x, 10, 2);
        });
    }

    private static void mostOfOne(int overs, int most) {
        BallBook x = game(overs, 1);
        x.turn(0);
        for (int k = 0; k < most; k++) {
            is(x.over(0, 0), true);
            if (2 * k + 2 < overs) {
                is(x.over(0, 1 + k % 10), true);
            }
        }
        if (overs > 1) {
            refusedBy(x, x.over(0, 0), 6);
            is(x.fields(0, 0, 0, 0), most);
        }
    }

    private static void rulesOfOvers() {
        test("promise 7, over; rule 3: the TURN has ended, ahead of rules 4, 5, 6", () -> {
            BallBook x = begun(5);
            balls(x, CLOSE);
            refusedBy(x, x.over(0, 1), 3);
            refusedBy(x, x.over(0, 11), 3);
            refusedBy(x, x.over(0, 0), 3);
        });
        test("promise 7, over; rule 3: as many OVERS as ALLOWED have begun, though the last is not whole", () -> {
            BallBook x = begun(2);
            is(x.over(0, 1), true);
            refusedBy(x, x.over(0, 2), 3);
            refusedBy(x, x.over(0, 1), 3);
            refusedBy(x, x.over(0, 15), 3);
            scoreIs(x, 0, 10, 2);
        });
        test("promise 7, over; rule 3: RAIN makes an OVER on THE PAGE one too many", () -> {
            BallBook x = begun(2);
            x.over(0, 1);
            x.put(0, 0, 0, 0, RAIN + 1);
            cannot(x, 3, 0, 1, N);
            is(x.overs(0, 0, 0, 7), 1);
            is(x.overs(0, 0, 1, 7), 0);
        });
        test("promise 7, over; rule 4: of an OVER on THE PAGE, a BOWLER of 11 .. 15", () -> {
            BallBook x = begun(5);
            for (int bowler = 0; bowler < 16; bowler++) {
                x.bowls(0, 0, 0, bowler);
                nowIs(x, 11, bowler > 10 ? 4 : 0);
            }
        });
        test("promise 7, over; rule 5: bowled the OVER ahead, not the one ahead of that", () -> {
            BallBook x = begun(6);
            refusedBy(x, x.over(0, 0), 5);
            is(x.over(0, 1), true);
            refusedBy(x, x.over(0, 1), 5);
            is(x.over(0, 0), true);
        });
        test("promise 7, over; rule 5: goes ahead of rule 6", () -> {
            BallBook x = begun(5);
            refusedBy(x, x.over(0, 0), 5);
            x.over(0, 1);
            refusedBy(x, x.over(0, 0), 6);
        });
        test("promise 7, over; rule 5: the OVER ahead is one of this TURN", () -> {
            BallBook x = begun(5);
            balls(x, CLOSE);
            x.turn(0);
            is(x.over(0, 0), true);
        });
        test("promise 7, over; rule 6: a fifth of 1 OVER, rounded up, is 1", () -> mostOfOne(1, 1));
        test("promise 7, over; rule 6: a fifth of 4 OVERS, rounded up, is 1", () -> mostOfOne(4, 1));
        test("promise 7, over; rule 6: a fifth of 5 OVERS is 1", () -> mostOfOne(5, 1));
        test("promise 7, over; rule 6: a fifth of 6 OVERS, rounded up, is 2", () -> mostOfOne(6, 2));
        test("promise 7, over; rule 6: a fifth of 10 OVERS is 2", () -> mostOfOne(10, 2));
        test("promise 7, over; rule 6: a fifth of 11 OVERS, rounded up, is 3", () -> mostOfOne(11, 3));
        test("promise 7, over; rule 6: a fifth of 120 OVERS is 24", () -> mostOfOne(120, 24));
        test("promise 7, over; rule 6: RAIN leaves the GAME's OVERS as they are", () -> {
            BallBook x = begun(10);
            balls(x, RAIN + 5);
            x.over(0, 1);
            is(x.over(0, 0), true);
            x.over(0, 1);
            refusedBy(x, x.over(0, 0), 6);
        });
        test("promise 7, over; rule 6: those of another TURN don't count", () -> {
            BallBook x = begun(5);
            overOf(x, 1, CLOSE);
            turnOf(x, 0);
            is(x.over(0, 1), true);
            refusedBy(x, x.over(0, 0), 6);
        });
        test("promise 7, over; rule 6: a missing OVER is bowled, too", () -> {
            BallBook x = begun(5);
            x.tear(0, 0, 0);
            x.over(0, 1);
            refusedBy(x, x.over(0, 0), 6);
        });
    }

    private static void rulesOfEntries() {
        test("promise 8, ball; rule 7: goes ahead of rule 8, 9 and 10", () -> {
            BallBook x = begun(2);
            balls(x, 0, 0, 0, 0, 0, 0);
            refusedBy(x, x.ball(0, 7), 7);
            refusedBy(x, x.ball(0, RAIN), 7);
            balls(x, CLOSE);
            refusedBy(x, x.ball(0, WIDE + 5), 7);
            refusedBy(x, x.ball(0, CLOSE + 1), 7);
        });
        test("promise 8, ball; rule 8: the TURN has ended, for each kind, ahead of rules 9 and 10", () -> {
            BallBook x = begun(1);
            balls(x, 0, 0, 0, 0, 0, 0);
            for (int kind = 0; kind < 10; kind++) {
                refusedBy(x, x.ball(0, 16 * kind + (kind == 6 || kind == 8 ? 1 : 0)), 8);
            }
            is(x.overs(0, 0, 0, 1), 6);
        });
        test("promise 8, ball; rule 8: behind the ENTRY that WON", () -> {
            BallBook x = begun(1);
            balls(x, CLOSE);
            turnOf(x, 0, 1);
            refusedBy(x, x.ball(0, 0), 8);
            refusedBy(x, x.ball(0, CLOSE), 8);
        });
        test("promise 8, ball; rule 9: behind the sixth that counts, each that counts, WIDE and FOUL", () -> {
            BallBook x = begun(2);
            balls(x, 0, 0, 0, 0, 0, 0);
            for (int entry : new int[] {0, 6, WIDE, FOUL, OUT, RUN_OUT, BYE + 1}) {
                refusedBy(x, x.ball(0, entry), 9);
            }
            is(x.overs(0, 0, 0, 1), 6);
        });
        test("promise 8, ball; rule 9: DEAD, NOTE, RAIN and CLOSE can be behind the sixth", () -> {
            BallBook x = begun(5);
            balls(x, 0, 0, 0, 0, 0, 0, DEAD, NOTE, RAIN + 1, CLOSE);
            cannot(x, 0, N, N, N);
            is(x.overs(0, 0, 0, 4), 6);
        });
        test("promise 8, ball; rule 9: each can be behind the fifth", () -> {
            for (int entry : new int[] {0, WIDE, FOUL, OUT, RUN_OUT, BYE + 1}) {
                BallBook x = begun(2);
                balls(x, 0, 0, 0, 0, 0, entry);
            }
        });
        test("promise 8, ball; rule 9: one put in ahead makes the last one the seventh", () -> {
            BallBook x = begun(2);
            balls(x, 0, 0, 0, 0, 0, 4);
            x.put(0, 0, 0, 0, 1);
            cannot(x, 9, 0, 0, 6);
            scoreIs(x, 0, 0, 1);
            is(x.overs(0, 0, 0, 5), 1);
        });
        test("promise 8, ball; rule 10: RAIN with two TURNS of each", () -> {
            BallBook x = game(120, 2);
            turnOf(x, 0);
            refusedBy(x, x.ball(0, RAIN + 1), 10);
            refusedBy(x, x.ball(0, RAIN + 15), 10);
            scoreIs(x, 0, 5, 120);
        });
        test("promise 8, ball; rule 10: as many ALLOWED overs as have been begun can be left, fewer can't", () -> {
            BallBook x = begun(5);
            x.over(0, 1);
            refusedBy(x, x.ball(0, RAIN + 4), 10);
            refusedBy(x, x.ball(0, RAIN + 15), 10);
            scoreIs(x, 0, 5, 5);
            is(x.ball(0, RAIN + 3), true);
            scoreIs(x, 0, 5, 2);
            scoreIs(x, 0, 6, 0);
            refusedBy(x, x.ball(0, RAIN + 1), 10);
        });
        test("promise 8, ball; rule 10: a GAME of one OVER has none to take away", () -> {
            BallBook x = begun(1);
            refusedBy(x, x.ball(0, RAIN + 1), 10);
        });
    }

    private static void playStops() {
        test("promise 18, now; terms 2: at an ENTRY that can't be PLAY stops; that one and all behind it count for nothing", () -> {
            BallBook x = begun(2);
            balls(x, 1, 2, 3);
            overOf(x, 1, 4, CLOSE);
            turnOf(x, 0, 5);
            x.mend(0, 0, 0, 1, 200);
            cannot(x, 7, 0, 0, 1);
            nowIs(x, 0, 0);
            scoreIs(x, 0, 0, 1);
            scoreIs(x, 0, 3, 1);
            scoreIs(x, 0, 7, 0);
            is(x.overs(0, 0, 0, 7), 1);
            is(x.overs(0, 0, 1, 7), 0);
            is(x.overs(0, 0, 1, 2), 0);
            scoreIs(x, 1, 0, 0);
            scoreIs(x, 1, 9, 0);
            scoreIs(x, 1, 10, 1);
        });
        test("promise 18, now; terms 2: the first one that can't be is told, not a later one", () -> {
            BallBook x = begun(3);
            balls(x, 1);
            overOf(x, 1, 1);
            x.mend(0, 0, 1, 0, 255);
            cannot(x, 7, 0, 1, 0);
            x.bowls(0, 0, 1, 0);
            cannot(x, 5, 0, 1, N);
            x.mend(0, 0, 0, 0, 7);
            cannot(x, 7, 0, 0, 0);
            x.bowls(0, 0, 0, 12);
            cannot(x, 4, 0, 0, N);
        });
        test("promise 18, now; terms 2: the last ENTRY of a full ROW", () -> {
            BallBook x = begun(3);
            balls(x, times(40, NOTE));
            x.mend(0, 0, 0, 39, 255);
            cannot(x, 7, 0, 0, 39);
        });
    }

    private static void rain() {
        test("promise 19, score; terms 2: a TURN ends (2) by RAIN that leaves as many OVERS as are whole", () -> {
            BallBook x = begun(5);
            balls(x, 0, 0, 0, 0, 0, 0);
            refusedBy(x, x.ball(0, RAIN + 5), 10);
            balls(x, RAIN + 3);
            scoreIs(x, 0, 6, 0);
            balls(x, RAIN + 1);
            scoreIs(x, 0, 6, 2);
            scoreIs(x, 0, 5, 1);
            nowIs(x, 4, 0);
        });
        test("promise 19, score; terms 2: RAIN that leaves the OVER at hand alone doesn't end it", () -> {
            BallBook x = begun(5);
            balls(x, 0, 0, 0, 0, 0, RAIN + 4);
            scoreIs(x, 0, 6, 0);
            nowIs(x, 4, 1);
            balls(x, 0);
            scoreIs(x, 0, 6, 2);
        });
        test("promise 19, score; terms 2: TURN 1 is ALLOWED what TURN 0 was at its end", () -> {
            BallBook x = begun(20);
            balls(x, RAIN + 15, RAIN + 3, CLOSE);
            scoreIs(x, 0, 5, 2);
            x.turn(0);
            scoreIs(x, 1, 5, 2);
            nowIs(x, 4, 12);
            scoreIs(x, 1, 8, 33);
        });
        test("promise 19, score; terms 2: with two TURNS of each every TURN is ALLOWED the GAME's OVERS", () -> {
            BallBook x = game(7, 2);
            for (int t = 0; t < 4; t++) {
                turnOf(x, 0, CLOSE);
                scoreIs(x, t, 5, 7);
                scoreIs(x, t, 8, 113);
            }
        });
        test("promise 19, score; terms 3: balls left are 6 times ALLOWED less 6 of each whole OVER, and those that count", () -> {
            BallBook x = begun(3);
            nowIs(x, 4, 18);
            balls(x, WIDE, 0, DEAD);
            nowIs(x, 4, 17);
            x.over(0, 1);
            nowIs(x, 4, 12);
            balls(x, RAIN + 1);
            nowIs(x, 4, 6);
            balls(x, 0, 0, 0, 0, 0, 0);
            nowIs(x, 4, 0);
        });
    }

    private static void meansOfNew(int overs, int due) {
        BallBook x = game(overs, 1);
        x.turn(0);
        scoreIs(x, 0, 8, due);
    }

    private static void means() {
        test("promise 19, score; terms 3: TABLE(6 * ALLOWED, 0) of 1, 2, 60, 119 and 120 OVERS, cut down", () -> {
            // 6 * 1434 / 518.4 = 16.59.., 12 * 1428 / 518.4 = 33.05.., 360 * 1080 / 518.4 = 750,
            // 714 * 726 / 518.4 = 999.93.., 720 * 720 / 518.4 = 1000
            meansOfNew(1, 16);
            meansOfNew(2, 33);
            meansOfNew(60, 750);
            meansOfNew(119, 999);
            meansOfNew(120, 1000);
        });
        test("promise 19, score; terms 3: RAIN with nobody out and with no ball gone", () -> {
            BallBook x = begun(2);
            balls(x, RAIN + 1);
            // 33 - (33 - 16)
            scoreIs(x, 0, 8, 16);
        });
        test("promise 19, score; terms 3: RAIN with nine out", () -> {
            BallBook x = begun(120);
            balls(x, times(6, OUT));
            overOf(x, 1, OUT, OUT, OUT, RAIN + 15);
            // 19 / 100 of 711 * 729 / 518.4 = 189.97.. and of 621 * 819 / 518.4 = 186.40..
            scoreIs(x, 0, 8, 1000 - (189 - 186));
        });
        test("promise 19, score; terms 3: each RAIN by the outs and the balls then", () -> {
            BallBook x = begun(20);
            balls(x, 0, RAIN + 5, OUT, RAIN + 5, OUT, RAIN + 5);
            // TABLE(119, 0) 303, (89, 0) 231; (88, 1) 227, (58, 1) 153; (57, 2) 145, (27, 2) 70
            scoreIs(x, 0, 8, 305 - (303 - 231) - (227 - 153) - (145 - 70));
        });
        test("promise 19, score; terms 3: TABLE of no balls is 0", () -> {
            BallBook x = begun(2);
            balls(x, 0, 0, 0, 0, 0, 0, RAIN + 1);
            // TABLE(6, 0) 16 less TABLE(0, 0) 0
            scoreIs(x, 0, 8, 33 - 16);
        });
        test("promise 19, score; terms 3: THE MEANS can come down to 0", () -> {
            BallBook x = begun(119);
            balls(x, 0, 0, 0, 0, 0, 0);
            rainOf(x, 118);
            // TABLE(714, 0) and TABLE(708, 0) are both 999
            scoreIs(x, 0, 8, 0);
            scoreIs(x, 0, 5, 1);
            scoreIs(x, 0, 6, 2);
        });
    }

    private static void target() {
        test("promise 18, now; terms 3, THE TARGET: n is m: one more than the score", () -> {
            BallBook x = begun(10);
            balls(x, 6, 6, CLOSE);
            x.turn(0);
            nowIs(x, 6, 13);
        });
        test("promise 18, now; terms 3, THE TARGET: of no runs it is 1", () -> {
            BallBook x = begun(10);
            balls(x, CLOSE);
            x.turn(0);
            nowIs(x, 6, 1);
            nowIs(x, 7, 1);
        });
        test("promise 18, now; terms 3, THE TARGET: n below m: a * n / m, cut down, and 1", () -> {
            BallBook x = begun(10);
            balls(x, 5, CLOSE);
            turnOf(x, 0, RAIN + 5);
            // 5 * 81 / 159 = 2.5..
            scoreIs(x, 0, 8, 159);
            scoreIs(x, 1, 8, 81);
            nowIs(x, 6, 3);
        });
        test("promise 18, now; terms 3, THE TARGET: n is m by RAIN, and n above m by 1", () -> {
            BallBook x = begun(10);
            balls(x, 6, 0, 0, 0, 0, 0, RAIN + 2, CLOSE);
            // TABLE(54, 0) 144, (42, 0) 113: both are 128
            x.turn(0);
            scoreIs(x, 0, 8, 128);
            scoreIs(x, 1, 8, 128);
            nowIs(x, 6, 7);
            x.mend(0, 0, 0, 6, RAIN + 6);
            // TABLE(18, 0) 49: m is 159 - 95 = 64, n is TABLE(24, 0) 65: 200 * 1 / 1000 = 0
            scoreIs(x, 0, 8, 64);
            scoreIs(x, 1, 8, 65);
            nowIs(x, 6, 7);
        });
        test("promise 18, now; terms 3, THE TARGET: n above m by 4 makes no run more, by 5 one", () -> {
            BallBook x = begun(20);
            balls(x, 6, 0, 0, 0, 0, 0);
            dots(x, 1, 3);
            balls(x, RAIN + 9, CLOSE);
            x.turn(0);
            // TABLE(96, 0) 248, (42, 0) 113: m is 305 - 135 = 170; n is TABLE(66, 0) 174
            scoreIs(x, 0, 8, 170);
            scoreIs(x, 1, 8, 174);
            nowIs(x, 6, 7);
            x.mend(0, 0, 3, 6, RAIN + 10);
            // TABLE(36, 0) 97: m is 305 - 151 = 154; n is TABLE(60, 0) 159
            scoreIs(x, 0, 8, 154);
            scoreIs(x, 1, 8, 159);
            nowIs(x, 6, 8);
        });
        test("promise 18, now; terms 3, THE TARGET: n above m by 500", () -> {
            BallBook x = begun(120);
            for (int o = 1; o < 60; o++) {
                overOf(x, o % 10);
            }
            balls(x, 6, 0, 0, 0, 0, 0);
            rainOf(x, 60);
            x.turn(0);
            // TABLE(360, 0) is 750: m is 1000 - 750
            scoreIs(x, 0, 8, 250);
            scoreIs(x, 1, 8, 750);
            nowIs(x, 6, 6 + 100 + 1);
        });
        test("promise 18, now; terms 3, THE TARGET: n above m by 204 makes 40, cut down", () -> {
            BallBook x = begun(120);
            for (int o = 1; o < 30; o++) {
                overOf(x, o % 10);
            }
            balls(x, 6, 0, 0, 0, 0, 0);
            rainOf(x, 49);
            balls(x, CLOSE);
            x.turn(0);
            // TABLE(540, 0) 937, (246, 0) 566: m is 1000 - 371; n is TABLE(426, 0) 833; 40800 / 1000
            scoreIs(x, 0, 8, 629);
            scoreIs(x, 1, 8, 833);
            nowIs(x, 6, 6 + 40 + 1);
        });
        test("promise 18, now; terms 3, THE TARGET: m is 0", () -> {
            BallBook x = begun(119);
            balls(x, 6, 6, 0, 0, 0, 0);
            rainOf(x, 118);
            x.turn(0);
            // n is TABLE(6, 0) 16: 12 and 200 * 16 / 1000 = 3, and 1
            scoreIs(x, 0, 8, 0);
            scoreIs(x, 1, 8, 16);
            nowIs(x, 6, 16);
        });
        test("promise 18, now; terms 3, THE TARGET: RAIN in TURN 1 sets it anew", () -> {
            BallBook x = begun(10);
            balls(x, 6, 6, CLOSE);
            turnOf(x, 0);
            nowIs(x, 6, 13);
            balls(x, RAIN + 9);
            // 12 * 16 / 159 = 1.2..
            scoreIs(x, 1, 8, 16);
            nowIs(x, 6, 2);
        });
        test("promise 18, now; terms 3, THE TARGET: there is one in the last TURN alone", () -> {
            BallBook x = game(1, 2);
            for (int t = 0; t < 3; t++) {
                turnOf(x, 0, CLOSE);
                nowIs(x, 6, N);
                nowIs(x, 7, N);
                nowIs(x, 8, N);
            }
            x.turn(0);
            nowIs(x, 6, 1);
            nowIs(x, 7, 1);
            nowIs(x, 8, 1);
        });
    }

    /** Turn 0 makes three runs, turn 1 has these entries. */
    private static BallBook chase(int... entries) {
        BallBook x = begun(1);
        balls(x, 3, CLOSE);
        turnOf(x, 0, entries);
        return x;
    }

    private static void winners() {
        test("promise 18, now; terms 3: one less than THE TARGET is not WON, the same is, more is", () -> {
            nowIs(chase(3), 10, 0);
            nowIs(chase(4), 10, 2);
            nowIs(chase(6), 10, 2);
            nowIs(chase(3, WIDE), 10, 2);
            nowIs(chase(FOUL + 3), 5, 4);
        });
        test("promise 18, now; terms 3: when the last TURN has ended: a tie, if the score is one less", () -> {
            nowIs(chase(3, CLOSE), 10, 3);
            nowIs(chase(3, 0, 0, 0, 0, 0), 10, 3);
        });
        test("promise 18, now; terms 3: when the last TURN has ended: two less is WON by 0", () -> {
            nowIs(chase(2, CLOSE), 10, 1);
            nowIs(chase(CLOSE), 10, 1);
            nowIs(chase(2, 0, 0, 0, 0, 0), 10, 1);
        });
        test("promise 18, now; terms 2: a last TURN behind which 0 has WON has ended by 1, 2, 3 as any, not by 4", () -> {
            nowIs(chase(2, CLOSE), 5, 3);
            nowIs(chase(2, 0, 0, 0, 0, 0), 5, 2);
            BallBook x = begun(2);
            balls(x, 3, CLOSE);
            turnOf(x, 0, times(6, OUT));
            overOf(x, 1, times(4, OUT));
            nowIs(x, 5, 1);
            nowIs(x, 10, 1);
        });
        test("promise 18, now; terms 2: a last TURN behind a tie has ended by 1, 2, 3 as any, not by 4", () -> {
            nowIs(chase(3, CLOSE), 5, 3);
            nowIs(chase(3, 0, 0, 0, 0, 0), 5, 2);
            BallBook x = begun(2);
            balls(x, CLOSE);
            turnOf(x, 0, times(6, OUT));
            overOf(x, 1, times(4, OUT));
            nowIs(x, 5, 1);
            nowIs(x, 10, 3);
        });
        test("promise 18, now; terms 3: a tie by a missing OVER", () -> {
            BallBook x = begun(1);
            balls(x, CLOSE);
            turnOf(x, 0);
            nowIs(x, 10, 0);
            x.tear(0, 1, 0);
            nowIs(x, 10, 3);
            scoreIs(x, 1, 6, 2);
        });
        test("promise 18, now; terms 3: WON by RAIN at that", () -> {
            BallBook x = begun(10);
            balls(x, 6, 6, CLOSE);
            turnOf(x, 0, 2);
            nowIs(x, 10, 0);
            balls(x, RAIN + 9);
            // TABLE(59, 0) 157, (5, 0) 13: n is 15, 12 * 15 / 159 = 1.1..: THE TARGET is 2
            nowIs(x, 6, 2);
            nowIs(x, 10, 2);
            nowIs(x, 5, 4);
            nowIs(x, 7, 0);
            refusedBy(x, x.ball(0, 0), 8);
        });
        test("promise 18, now; terms 3: RAIN that leaves one run too few doesn't win", () -> {
            BallBook x = begun(10);
            balls(x, 6, 6, CLOSE);
            turnOf(x, 0, 1, RAIN + 9);
            nowIs(x, 6, 2);
            nowIs(x, 10, 0);
            nowIs(x, 7, 1);
        });
        test("promise 18, now; terms 2: RAIN that ends TURN 1 and wins it is 4, not 2", () -> {
            BallBook x = begun(10);
            balls(x, 6, 6, 6, CLOSE);
            turnOf(x, 0, 2, 0, 0, 0, 0, 0, RAIN + 9);
            // TABLE(54, 0) 144: n is 159 - 144 = 15, 18 * 15 / 159 = 1.6..
            nowIs(x, 6, 2);
            nowIs(x, 5, 4);
            nowIs(x, 10, 2);
        });
        test("promise 18, now; terms 2: RAIN that ends TURN 1 and doesn't win it is 2", () -> {
            BallBook x = begun(10);
            balls(x, 6, 6, 6, CLOSE);
            turnOf(x, 0, 1, 0, 0, 0, 0, 0, RAIN + 9);
            nowIs(x, 6, 2);
            nowIs(x, 5, 2);
            nowIs(x, 10, 3);
        });
    }

    /** Two turns of each, the first three with these scores (0 .. 6) and closed. */
    private static BallBook three(int first, int second, int third) {
        BallBook x = game(1, 2);
        turnOf(x, 0, first, CLOSE);
        turnOf(x, 0, second, CLOSE);
        turnOf(x, 0, third, CLOSE);
        return x;
    }

    private static void winnersOfTwo() {
        test("promise 18, now; terms 3: with two TURNS of each, a target below 1 behind TURN 2 is WON by 1", () -> {
            nowIs(three(1, 4, 2), 10, 2);
            nowIs(three(0, 6, 0), 10, 2);
            nowIs(three(1, 4, 2), 5, 3);
        });
        test("promise 18, now; terms 3: with two TURNS of each, a target of 1 must be had", () -> {
            BallBook x = three(1, 4, 3);
            nowIs(x, 10, 0);
            is(x.turn(0), true);
            nowIs(x, 6, 1);
            nowIs(x, 10, 0);
            overOf(x, 0, 1);
            nowIs(x, 10, 2);
        });
        test("promise 18, now; terms 3: a target below 1 is no win while TURN 2 has not ended", () -> {
            BallBook x = game(1, 2);
            turnOf(x, 0, CLOSE);
            turnOf(x, 0, 6, CLOSE);
            x.turn(0);
            nowIs(x, 10, 0);
            overOf(x, 0, 0, 0, 0, 0, 0);
            nowIs(x, 10, 0);
            balls(x, 0);
            nowIs(x, 10, 2);
            nowIs(x, 5, 2);
        });
        test("promise 18, now; terms 3: TURN 3: one less at its end is a tie, two less is WON by 0", () -> {
            BallBook x = three(3, 2, 1);
            turnOf(x, 0, 2, CLOSE);
            nowIs(x, 6, 3);
            nowIs(x, 10, 3);
            x.mend(0, 3, 0, 0, 1);
            nowIs(x, 10, 1);
            x.mend(0, 3, 0, 0, 3);
            nowIs(x, 10, 2);
            cannot(x, 8, 3, 0, 1);
        });
        test("promise 18, now; terms 3: TURN 1 of two has no target and is not WON", () -> {
            BallBook x = game(1, 2);
            turnOf(x, 0, CLOSE);
            turnOf(x, 0, 6, 6);
            nowIs(x, 6, N);
            nowIs(x, 10, 0);
            nowIs(x, 5, 0);
        });
    }
}

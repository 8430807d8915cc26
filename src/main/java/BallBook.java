import java.util.ArrayList;
import java.util.NoSuchElementException;

/** A scorer's book: sides, games, their pages of turns, overs and entries, and all that follows from them by play. */
public final class BallBook {
    public static final int NONE = -1;

    private static final int MOST_SIDES = 60;
    private static final int FEWEST_PLAYERS = 11;
    private static final int MOST_PLAYERS = 30;
    private static final int MOST_GAMES = 400;
    private static final int MOST_OVERS = 120;
    private static final int MOST_TURNS = 4;
    private static final int MOST_ENTRIES = 40;
    private static final int MOST_CHANGES = 40;
    private static final int MOST_ON_TAPE = 6000;
    private static final int MOST_IN_OUT = 8000;
    private static final int SEATS = 11;
    private static final int MOST_OUTS = 10;
    private static final int OVER_SIZE = 6;
    private static final int BEST_OF_BALL = 6;

    // The kinds of entries that play tells apart; DEAD (5) and NOTE (7) change nothing.
    private static final int BALL = 0;
    private static final int WIDE = 1;
    private static final int FOUL = 2;
    private static final int OUT = 3;
    private static final int RUN_OUT = 4;
    private static final int BYE = 6;
    private static final int RAIN = 8;
    private static final int CLOSE = 9;
    private static final int[] LEAST_V = {0, 0, 0, 0, 0, 0, 1, 0, 1, 0};
    private static final int[] MOST_V = {6, 4, 6, 3, 7, 15, 4, 15, 15, 0};

    private static final int BY_OUTS = 1;
    private static final int BY_OVERS = 2;
    private static final int BY_CLOSE = 3;
    private static final int BY_WIN = 4;

    private static final int WON_BY_0 = 1;
    private static final int WON_BY_1 = 2;
    private static final int TIE = 3;

    private static final int NOT_ENOUGH_ON_PAGE = 11;
    private static final int ROW_IS_FULL = 12;

    private static final int BAT_RUNS = 0;
    private static final int BAT_FACED = 1;
    private static final int BAT_STATE = 2;
    private static final int STATE_IN = 1;
    private static final int STATE_OUT = 2;
    private static final int STATE_RUN_OUT = 6;
    private static final int BOWL_OVERS = 0;
    private static final int BOWL_RUNS = 1;
    private static final int BOWL_OUTS = 2;
    private static final int OVER_RUNS = 0;
    private static final int OVER_OUTS = 1;
    private static final int OVER_COUNTS = 2;
    private static final int OVER_WHOLE = 3;
    private static final int OVER_OPEN = 4;

    private static final int NOW_FIGURES = 15;
    private static final int SCORE_FIGURES = 16;
    private static final int OVER_FIGURES = 8;
    private static final int SEAT_FIGURES = 4;

    private static final int MOST_RUNS = 0;
    private static final int BEST_BOWLER = 1;
    private static final int BEST_SCORE = 2;
    private static final int MOST_RUNS_OF_ALL = 3;
    private static final int RECORDS = 4;
    private static final int RECORD_FIGURES = 6;

    private static final int IMAGE_MARK = 66;
    private static final int IMAGE_HEAD = 28;
    private static final int IMAGE_OVERS = 130;

    private static final int TURN_CAME = 0;
    private static final int OVER_CAME = 1;
    private static final int OVER_CHANGED = 2;

    private final int[] players = new int[MOST_SIDES];
    private final ArrayList<Game> games = new ArrayList<>();
    private final Bytes tape = new Bytes(MOST_ON_TAPE);
    private final Bytes outBytes = new Bytes(MOST_IN_OUT);
    private final Changes changes = new Changes();
    private final Play play = new Play();
    private final Records records = new Records();
    private final Reader reader = new Reader();
    private int sides;
    private int reason;
    private int playedGame;
    private boolean recordsAreOld;

    public BallBook() {
        sides = 0;
        reason = 0;
        playedGame = NONE;
        recordsAreOld = true;
    }

    public int side(int players) {
        if (sides >= MOST_SIDES || players < FEWEST_PLAYERS || players > MOST_PLAYERS) {
            return NONE;
        }
        this.players[sides] = players;
        sides++;
        recordsAreOld = true;
        return sides - 1;
    }

    public int player(int side) {
        if (!hasSide(side) || players[side] >= MOST_PLAYERS) {
            return NONE;
        }
        players[side]++;
        recordsAreOld = true;
        return players[side] - 1;
    }

    public int toss(int bats, int fields, int overs, int turns) {
        if (games.size() >= MOST_GAMES || !hasSide(bats) || !hasSide(fields) || bats == fields) {
            return NONE;
        }
        if (overs < 1 || overs > MOST_OVERS || turns < 1 || turns > 2) {
            return NONE;
        }
        return addGame(new Game(bats, fields, overs, turns));
    }

    public boolean seat(int game, int side, int seat, int player) {
        Game page = gameAt(game);
        if (page == null || side < 0 || side > 1 || seat < 0 || seat >= SEATS) {
            return false;
        }
        if (player < 0 || player >= playersOf(page.sideAt(side)) || page.turnCount() > 0) {
            return false;
        }
        page.giveSeat(side, seat, player);
        forgetPlay();
        return true;
    }

    public boolean turn(int game) {
        Game page = gameAt(game);
        if (page == null) {
            return refused(0);
        }
        playOver(game, page);
        int rule = play.rule != 0 ? play.rule : play.ruleOfTurn(page.turnCount());
        if (rule != 0) {
            return refused(rule);
        }
        changes.push(game, TURN_CAME, page.turnCount(), NONE, null);
        page.addTurn(new Turn());
        return done();
    }

    public boolean over(int game, int bowler) {
        Game page = gameAt(game);
        if (page == null) {
            return refused(0);
        }
        playOver(game, page);
        if (play.rule != 0) {
            return refused(play.rule);
        }
        Turn latest = page.turnAt(page.turnCount() - 1);
        if (latest == null) {
            return refused(NOT_ENOUGH_ON_PAGE);
        }
        int rule = play.ruleOfOver(bowler);
        if (rule != 0) {
            return refused(rule);
        }
        changes.push(game, OVER_CAME, page.turnCount() - 1, latest.overCount(), null);
        latest.addOver(new Over(bowler, 0));
        return done();
    }

    public boolean ball(int game, int entry) {
        Game page = gameAt(game);
        if (page == null) {
            return refused(0);
        }
        playOver(game, page);
        if (play.rule != 0) {
            return refused(play.rule);
        }
        int turn = page.turnCount() - 1;
        int over = page.overCountOf(turn) - 1;
        Over latest = page.overAt(turn, over);
        if (latest == null || latest.isMissing()) {
            return refused(NOT_ENOUGH_ON_PAGE);
        }
        if (latest.isFull()) {
            return refused(ROW_IS_FULL);
        }
        int rule = play.ruleOfEntry(entry & 255);
        if (rule != 0) {
            return refused(rule);
        }
        keep(game, turn, over, latest);
        latest.insert(latest.size, entry & 255);
        return done();
    }

    public int feed(int a, int b, int c, int d, int e) {
        if (tape.size > MOST_ON_TAPE - 20) {
            return NONE;
        }
        tape.addNumber(a);
        tape.addNumber(b);
        tape.addNumber(c);
        tape.addNumber(d);
        tape.addNumber(e);
        return tape.size;
    }

    public boolean open(int game, int turn, int over, int n) {
        Over row = overOf(game, turn, over);
        if (row == null || n < 0 || n > MOST_ENTRIES || n > tape.size) {
            return false;
        }
        keep(game, turn, over, row);
        row.size = 0;
        for (int i = 0; i < n; i++) {
            row.insert(i, tape.at(i));
        }
        tape.clear();
        return true;
    }

    public boolean tear(int game, int turn, int over) {
        Over row = overOf(game, turn, over);
        if (row == null || row.isMissing()) {
            return false;
        }
        keep(game, turn, over, row);
        row.size = NONE;
        return true;
    }

    public boolean put(int game, int turn, int over, int i, int entry) {
        Over row = overOf(game, turn, over);
        if (row == null || row.isMissing() || i < 0 || i > row.size || row.isFull()) {
            return false;
        }
        keep(game, turn, over, row);
        row.insert(i, entry & 255);
        return true;
    }

    public int mend(int game, int turn, int over, int i, int entry) {
        Over row = overOf(game, turn, over);
        if (row == null || !row.has(i)) {
            return NONE;
        }
        keep(game, turn, over, row);
        int was = row.at(i);
        row.set(i, entry & 255);
        return was;
    }

    public int out(int game, int turn, int over, int i) {
        Over row = overOf(game, turn, over);
        if (row == null || !row.has(i)) {
            return NONE;
        }
        keep(game, turn, over, row);
        int was = row.at(i);
        row.remove(i);
        return was;
    }

    public int bowls(int game, int turn, int over, int bowler) {
        Over row = overOf(game, turn, over);
        if (row == null) {
            return NONE;
        }
        keep(game, turn, over, row);
        int was = row.bowler;
        row.bowler = bowler & 15;
        return was;
    }

    public int undo() {
        Change change = changes.pop();
        if (change == null) {
            return NONE;
        }
        Game page = gameAt(change.game);
        if (page == null) {
            return NONE;
        }
        page.takeBack(change);
        forgetPlay();
        return change.game;
    }

    public int why() {
        return reason;
    }

    public int now(int game, int what) throws NoSuchElementException {
        Game page = gameAt(game);
        if (page == null || what < 0 || what >= NOW_FIGURES) {
            throw new NoSuchElementException("no such game or what");
        }
        playOver(game, page);
        return play.figure(what);
    }

    public int score(int game, int turn, int what) throws NoSuchElementException {
        Game page = gameAt(game);
        if (page == null || page.turnAt(turn) == null || what < 0 || what >= SCORE_FIGURES) {
            throw new NoSuchElementException("no such game, turn or what");
        }
        playOver(game, page);
        return scoreFigure(page, turn, what);
    }

    public int overs(int game, int turn, int over, int what) throws NoSuchElementException {
        Over row = overOf(game, turn, over);
        if (row == null || what < 0 || what >= OVER_FIGURES) {
            throw new NoSuchElementException("no such game, turn, over or what");
        }
        playOver(game, gameAt(game));
        switch (what) {
            case 0:
                return row.bowler;
            case 1:
                return row.size;
            default:
                return play.tallyAt(turn).overFigure(over, what);
        }
    }

    public int entry(int game, int turn, int over, int i) throws NoSuchElementException {
        Over row = overOf(game, turn, over);
        if (row == null || !row.has(i)) {
            throw new NoSuchElementException("no such entry");
        }
        return row.at(i);
    }

    public int bats(int game, int turn, int seat, int what) throws NoSuchElementException {
        Game page = gameAt(game);
        if (page == null || page.turnAt(turn) == null || !isSeatFigure(seat, what)) {
            throw new NoSuchElementException("no such game, turn, seat or what");
        }
        playOver(game, page);
        return batsFigure(page, turn, seat, what);
    }

    public int fields(int game, int turn, int seat, int what) throws NoSuchElementException {
        Game page = gameAt(game);
        if (page == null || page.turnAt(turn) == null || !isSeatFigure(seat, what)) {
            throw new NoSuchElementException("no such game, turn, seat or what");
        }
        playOver(game, page);
        return fieldsFigure(page, turn, seat, what);
    }

    public int record(int sort, int what) throws NoSuchElementException {
        if (sort < 0 || sort >= RECORDS || what < 0 || what >= RECORD_FIGURES) {
            throw new NoSuchElementException("no such sort or what");
        }
        if (recordsAreOld) {
            findRecords();
        }
        return records.best.at(sort, what);
    }

    public int image(int game) {
        Game page = gameAt(game);
        if (page == null) {
            return NONE;
        }
        outBytes.clear();
        if (page.imageSize() > MOST_IN_OUT) {
            return NONE;
        }
        playOver(game, page);
        writeHead(page);
        for (int t = 0; t < page.turnCount(); t++) {
            writeTurn(page, t);
        }
        return outBytes.size;
    }

    public int told(int k) throws NoSuchElementException {
        if (k < 0 || k >= outBytes.size) {
            throw new NoSuchElementException("no such byte");
        }
        return outBytes.at(k);
    }

    public int check(int n) {
        if (n < 0 || n > tape.size) {
            return NONE;
        }
        judge(n);
        return reader.wrong + 1;
    }

    public int take(int n) {
        if (n < 0 || n > tape.size || games.size() >= MOST_GAMES) {
            return NONE;
        }
        Game page = judge(n);
        return reader.isRight() ? addGame(page) : -2 - reader.wrong;
    }

    public int list(int what) throws NoSuchElementException {
        switch (what) {
            case 0:
                return sides;
            case 1:
                return games.size();
            case 2:
                return tape.size;
            case 3:
                return changes.count;
            case 4:
                return outBytes.size;
            default:
                if (what < 0 || !hasSide(what - 5)) {
                    throw new NoSuchElementException("no such what");
                }
                return playersOf(what - 5);
        }
    }

    public long sum(int game) throws NoSuchElementException {
        Game page = gameAt(game);
        if (page == null) {
            throw new NoSuchElementException("no such game");
        }
        playOver(game, page);
        long all = 0;
        for (int what = 0; what < NOW_FIGURES; what++) {
            all = 31 * all + play.figure(what);
        }
        for (int turn = 0; turn < page.turnCount(); turn++) {
            all = addTurnFigures(all, page, turn);
        }
        return all;
    }

    private boolean hasSide(int side) {
        return side >= 0 && side < sides && side < MOST_SIDES;
    }

    private int playersOf(int side) {
        return hasSide(side) ? players[side] : 0;
    }

    private Game gameAt(int game) {
        return game >= 0 && game < games.size() ? games.get(game) : null;
    }

    private Over overOf(int game, int turn, int over) {
        Game page = gameAt(game);
        return page == null ? null : page.overAt(turn, over);
    }

    private int addGame(Game page) {
        games.add(page);
        recordsAreOld = true;
        return games.size() - 1;
    }

    private boolean refused(int rule) {
        reason = rule;
        return false;
    }

    private boolean done() {
        reason = 0;
        forgetPlay();
        return true;
    }

    private void forgetPlay() {
        playedGame = NONE;
        recordsAreOld = true;
    }

    /** Play is kept for one game, so that calls which only ask don't go over the page each time. */
    private void playOver(int game, Game page) {
        if (playedGame != game && page != null) {
            play.replay(page);
            playedGame = game;
        }
    }

    private void keep(int game, int turn, int over, Over row) {
        changes.push(game, OVER_CHANGED, turn, over, row);
        forgetPlay();
    }

    private static boolean isSeatFigure(int seat, int what) {
        return seat >= 0 && seat < SEATS && what >= 0 && what < SEAT_FIGURES;
    }

    private int scoreFigure(Game page, int turn, int what) {
        return what == 10 ? page.overCountOf(turn) : play.tallyAt(turn).figure(what);
    }

    private int batsFigure(Game page, int turn, int seat, int what) {
        return what == 3 ? page.playerAt(turn % 2, seat) : play.tallyAt(turn).batters.at(seat, what);
    }

    private int fieldsFigure(Game page, int turn, int seat, int what) {
        return what == 3 ? page.playerAt(1 - turn % 2, seat) : play.tallyAt(turn).bowlers.at(seat, what);
    }

    private long addTurnFigures(long before, Game page, int turn) {
        long all = before;
        for (int what = 0; what < SCORE_FIGURES; what++) {
            all = 31 * all + scoreFigure(page, turn, what);
        }
        for (int seat = 0; seat < SEATS; seat++) {
            for (int what = 0; what < SEAT_FIGURES; what++) {
                all = 31 * all + batsFigure(page, turn, seat, what);
            }
            for (int what = 0; what < SEAT_FIGURES; what++) {
                all = 31 * all + fieldsFigure(page, turn, seat, what);
            }
        }
        return all;
    }

    private void findRecords() {
        records.clear();
        for (int game = 0; game < games.size(); game++) {
            Game page = games.get(game);
            play.replay(page);
            playedGame = game;
            for (int turn = 0; turn < page.turnCount(); turn++) {
                records.addTurn(game, turn, page, play.tallyAt(turn));
            }
        }
        for (int side = 0; side < sides; side++) {
            records.addTotals(side, playersOf(side));
        }
        recordsAreOld = false;
    }

    private void writeHead(Game page) {
        outBytes.add(IMAGE_MARK);
        outBytes.add(page.sideAt(0));
        outBytes.add(page.sideAt(1));
        outBytes.add(page.overs);
        outBytes.add(page.turnsOfEach);
        for (int side = 0; side < 2; side++) {
            for (int seat = 0; seat < SEATS; seat++) {
                outBytes.add(page.playerAt(side, seat));
            }
        }
        outBytes.add(page.turnCount());
    }

    private void writeTurn(Game page, int turn) {
        int overs = page.overCountOf(turn);
        outBytes.add(overs);
        for (int o = 0; o < overs; o++) {
            Over over = page.overAt(turn, o);
            if (over != null) {
                outBytes.add(over.bowler);
                outBytes.add(over.size + 1);
                for (int i = 0; i < over.size; i++) {
                    outBytes.add(over.at(i));
                }
            }
        }
        int score = play.tallyAt(turn).score;
        outBytes.add(score >> 8);
        outBytes.add(score);
    }

    /** Reads the tape's first n bytes as an image; the reader tells behind it which byte is wrong. */
    private Game judge(int n) {
        reader.start(tape, n);
        Game page = reader.readHead(players, sides);
        reader.readTurns(page);
        reader.readEnd();
        tape.clear();
        if (reader.isRight()) {
            play.replay(page);
            playedGame = NONE;
            reader.compare(page, play);
        }
        return page;
    }

    private static int table(int balls, int outs) {
        return (int) (1000L * (100 - outs * outs) * balls * (1440 - balls) / 51840000L);
    }

    private static boolean counts(int kind) {
        return kind == BALL || kind == OUT || kind == RUN_OUT || kind == BYE;
    }

    /** A table of numbers that is 0 outside its bounds, so that no index needs a second look. */
    private static final class Grid {
        private final int rows;
        private final int columns;
        private final int[] cells;

        Grid(int rows, int columns) {
            this.rows = Math.max(rows, 0);
            this.columns = Math.max(columns, 0);
            cells = new int[this.rows * this.columns];
        }

        int at(int row, int column) {
            return has(row, column) ? cells[row * columns + column] : 0;
        }

        void set(int row, int column, int n) {
            if (has(row, column)) {
                cells[row * columns + column] = n;
            }
        }

        void add(int row, int column, int n) {
            if (has(row, column)) {
                cells[row * columns + column] += n;
            }
        }

        void fill(int n) {
            for (int i = 0; i < cells.length; i++) {
                cells[i] = n;
            }
        }

        void fillRow(int row, int n) {
            for (int column = 0; column < columns; column++) {
                set(row, column, n);
            }
        }

        int sumOf(int column, int ofRows) {
            int sum = 0;
            for (int row = 0; row < ofRows && row < rows; row++) {
                sum += at(row, column);
            }
            return sum;
        }

        int howMany(int column, int n) {
            int many = 0;
            for (int row = 0; row < rows; row++) {
                many += at(row, column) == n ? 1 : 0;
            }
            return many;
        }

        private boolean has(int row, int column) {
            return row >= 0 && row < rows && column >= 0 && column < columns;
        }
    }

    /** A row of bytes with a limit. */
    private static final class Bytes {
        private final int[] bytes;
        private int size;

        Bytes(int most) {
            bytes = new int[Math.max(most, 0)];
            size = 0;
        }

        void add(int b) {
            if (size < bytes.length) {
                bytes[size] = b & 255;
                size++;
            }
        }

        void addNumber(int n) {
            add(n >> 24);
            add(n >> 16);
            add(n >> 8);
            add(n);
        }

        int at(int i) {
            return i >= 0 && i < size ? bytes[i] : NONE;
        }

        void clear() {
            size = 0;
        }
    }

    /** An over as the page has it; its size is NONE where the row is missing. */
    private static final class Over {
        private final int[] row = new int[MOST_ENTRIES];
        private int bowler;
        private int size;

        Over(int bowler, int size) {
            this.bowler = bowler;
            this.size = size;
        }

        boolean isMissing() {
            return size < 0;
        }

        boolean isFull() {
            return size >= MOST_ENTRIES;
        }

        boolean has(int i) {
            return i >= 0 && i < size && i < MOST_ENTRIES;
        }

        int at(int i) {
            return has(i) ? row[i] : NONE;
        }

        void set(int i, int entry) {
            if (has(i)) {
                row[i] = entry;
            }
        }

        void insert(int place, int entry) {
            if (isMissing() || isFull() || place < 0 || place > size) {
                return;
            }
            size++;
            for (int i = size - 1; i > place; i--) {
                set(i, at(i - 1));
            }
            set(place, entry);
        }

        void remove(int place) {
            if (!has(place)) {
                return;
            }
            for (int i = place; i < size - 1; i++) {
                set(i, at(i + 1));
            }
            size--;
        }

        void copy(Over other) {
            bowler = other.bowler;
            size = other.size;
            for (int i = 0; i < size; i++) {
                set(i, other.at(i));
            }
        }
    }

    /** A turn as the page has it. */
    private static final class Turn {
        private final ArrayList<Over> overs = new ArrayList<>();

        int overCount() {
            return overs.size();
        }

        Over overAt(int over) {
            return over >= 0 && over < overs.size() ? overs.get(over) : null;
        }

        /** How many bytes of an image its first overs take. */
        int imageSize(int first) {
            int size = 0;
            for (int o = 0; o < first && o < overs.size(); o++) {
                size += 2 + Math.max(overs.get(o).size, 0);
            }
            return size;
        }

        void addOver(Over over) {
            overs.add(over);
        }

        void dropOver() {
            if (!overs.isEmpty()) {
                overs.remove(overs.size() - 1);
            }
        }
    }

    /** A game: its sides, its seats and its page. */
    private static final class Game {
        private final int bats;
        private final int fields;
        private final int overs;
        private final int turnsOfEach;
        private final Grid seats = new Grid(2, SEATS);
        private final ArrayList<Turn> turns = new ArrayList<>();

        Game(int bats, int fields, int overs, int turnsOfEach) {
            this.bats = bats;
            this.fields = fields;
            this.overs = overs;
            this.turnsOfEach = turnsOfEach;
            for (int seat = 0; seat < SEATS; seat++) {
                seats.set(0, seat, seat);
                seats.set(1, seat, seat);
            }
        }

        int sideAt(int side) {
            return side == 0 ? bats : fields;
        }

        int playerAt(int side, int seat) {
            return seats.at(side, seat);
        }

        /** Who sits on another seat already leaves it to the one who sat here. */
        void giveSeat(int side, int seat, int player) {
            int sat = seats.at(side, seat);
            for (int other = 0; other < SEATS; other++) {
                if (seats.at(side, other) == player) {
                    seats.set(side, other, sat);
                }
            }
            seats.set(side, seat, player);
        }

        int turnCount() {
            return turns.size();
        }

        Turn turnAt(int turn) {
            return turn >= 0 && turn < turns.size() ? turns.get(turn) : null;
        }

        void addTurn(Turn turn) {
            turns.add(turn);
        }

        int overCountOf(int turn) {
            Turn row = turnAt(turn);
            return row == null ? 0 : row.overCount();
        }

        Over overAt(int turn, int over) {
            Turn row = turnAt(turn);
            return row == null ? null : row.overAt(over);
        }

        void takeBack(Change change) {
            Turn turn = turnAt(change.turn);
            if (turn == null) {
                return;
            }
            if (change.kind == TURN_CAME) {
                turns.remove(turns.size() - 1);
            } else if (change.kind == OVER_CAME) {
                turn.dropOver();
            } else {
                Over over = turn.overAt(change.over);
                if (over != null) {
                    over.copy(change.was);
                }
            }
        }

        /** The place in the image of a turn's number of overs, of an over's bowler (no entry), or of an entry. */
        int placeOf(int turn, int over, int entry) {
            int place = IMAGE_HEAD;
            for (int t = 0; t < turn && t < turns.size(); t++) {
                place += 1 + turns.get(t).imageSize(turns.get(t).overCount()) + 2;
            }
            Turn row = turnAt(turn);
            if (row == null || over < 0) {
                return place;
            }
            place += 1 + row.imageSize(over);
            return entry < 0 ? place : place + 2 + entry;
        }

        int imageSize() {
            return placeOf(turnCount(), NONE, NONE);
        }
    }

    /** What a page was ahead of one change. */
    private static final class Change {
        private final Over was = new Over(0, NONE);
        private int game;
        private int kind;
        private int turn;
        private int over;

        Change() {
            game = NONE;
            kind = TURN_CAME;
            turn = NONE;
            over = NONE;
        }
    }

    /** The latest changes, in a ring, so that the oldest makes room. */
    private static final class Changes {
        private final Change[] ring = new Change[MOST_CHANGES];
        private int next;
        private int count;

        Changes() {
            next = 0;
            count = 0;
            for (int i = 0; i < ring.length; i++) {
                ring[i] = new Change();
            }
        }

        void push(int game, int kind, int turn, int over, Over row) {
            Change change = changeAt(next);
            if (change == null) {
                return;
            }
            change.game = game;
            change.kind = kind;
            change.turn = turn;
            change.over = over;
            if (row != null) {
                change.was.copy(row);
            }
            next = next + 1 < MOST_CHANGES ? next + 1 : 0;
            count = Math.min(count + 1, MOST_CHANGES);
        }

        Change pop() {
            if (count <= 0) {
                return null;
            }
            next = next > 0 ? next - 1 : MOST_CHANGES - 1;
            count--;
            return changeAt(next);
        }

        private Change changeAt(int i) {
            return i >= 0 && i < ring.length ? ring[i] : null;
        }
    }

    /** What play makes of one turn. */
    private static final class Tally {
        private final Grid batters = new Grid(SEATS, 3);
        private final Grid bowlers = new Grid(SEATS, 3);
        private final Grid overs = new Grid(MOST_OVERS, 5);
        private boolean played;
        private int score;
        private int outs;
        private int extras;
        private int nobodys;
        private int allowed;
        private int means;
        private int ended;
        private int begun;
        private int whole;
        private int open;
        private int counted;
        private int bowler;
        private int faces;
        private int other;
        private int next;

        Tally() {
            played = false;
            bowler = NONE;
            faces = NONE;
            other = NONE;
        }

        void clear() {
            played = false;
            batters.fill(0);
            bowlers.fill(0);
            score = 0;
            outs = 0;
            extras = 0;
            nobodys = 0;
            allowed = 0;
            means = 0;
            ended = 0;
            begun = 0;
            whole = 0;
            open = 0;
            counted = 0;
            bowler = NONE;
            faces = NONE;
            other = NONE;
            next = 0;
        }

        void begin(int allowedOvers) {
            played = true;
            allowed = allowedOvers;
            means = table(OVER_SIZE * allowed, 0);
            faces = 0;
            other = 1;
            next = 2;
            batters.set(faces, BAT_STATE, STATE_IN);
            batters.set(other, BAT_STATE, STATE_IN);
        }

        int ruleOfOver(int byBowler, int mostOfOne) {
            if (ended != 0 || begun >= allowed) {
                return 3;
            }
            if (byBowler < 0 || byBowler >= SEATS) {
                return 4;
            }
            if (byBowler == bowler) {
                return 5;
            }
            return bowlers.at(byBowler, BOWL_OVERS) >= mostOfOne ? 6 : 0;
        }

        void beginOver(Over over) {
            if (whole < begun) {
                endOver(true);
            }
            overs.fillRow(begun, 0);
            begun++;
            bowler = over.bowler;
            bowlers.add(bowler, BOWL_OVERS, 1);
            if (over.isMissing()) {
                endOver(true);
            }
        }

        int ruleOfEntry(int entry, boolean rainCanBe) {
            int kind = entry / 16;
            int v = entry % 16;
            if (kind < 0 || kind > CLOSE || v < LEAST_V[kind] || v > MOST_V[kind]) {
                return 7;
            }
            if (ended != 0) {
                return 8;
            }
            if (whole == begun && (counts(kind) || kind == WIDE || kind == FOUL)) {
                return 9;
            }
            return kind == RAIN && (!rainCanBe || allowed - v < begun) ? 10 : 0;
        }

        void playEntry(int entry) {
            int kind = entry / 16;
            int v = entry % 16;
            int before = score;
            if (counts(kind) || kind == FOUL) {
                batters.add(faces, BAT_FACED, 1);
            }
            switch (kind) {
                case BALL:
                    hit(v);
                    break;
                case WIDE:
                    concede();
                    runOfNobody(v);
                    break;
                case FOUL:
                    concede();
                    hit(v);
                    break;
                case OUT:
                    bowlers.add(bowler, BOWL_OUTS, 1);
                    leave(true, STATE_OUT + v);
                    break;
                case RUN_OUT:
                    hit(v / 2);
                    leave(v % 2 == 0, STATE_RUN_OUT);
                    break;
                case BYE:
                    runOfNobody(v);
                    break;
                case RAIN:
                    takeAway(v);
                    break;
                default:
                    break;
            }
            overs.add(begun - 1, OVER_RUNS, score - before);
            if (counts(kind)) {
                counted++;
                overs.set(begun - 1, OVER_COUNTS, counted);
            }
            if (counted == OVER_SIZE) {
                endOver(false);
            }
        }

        int ballsLeft() {
            return OVER_SIZE * (allowed - whole) - counted;
        }

        int figure(int what) {
            switch (what) {
                case 0:
                    return score;
                case 1:
                    return outs;
                case 2:
                    return whole;
                case 3:
                    return counted;
                case 4:
                    return extras;
                case 5:
                    return allowed;
                case 6:
                    return ended;
                case 7:
                    return open;
                case 8:
                    return means;
                case 9:
                    return played ? 1 : 0;
                default:
                    return crossSum(what);
            }
        }

        int overFigure(int over, int what) {
            boolean isPlayed = over >= 0 && over < begun;
            if (what == 7) {
                return isPlayed ? 1 : 0;
            }
            return isPlayed ? overs.at(over, what - 2) : 0;
        }

        private int crossSum(int what) {
            switch (what) {
                case 11:
                    return batters.sumOf(BAT_RUNS, SEATS) + extras;
                case 12:
                    return bowlers.sumOf(BOWL_RUNS, SEATS) + nobodys;
                case 13:
                    return overs.sumOf(OVER_RUNS, begun);
                case 14:
                    return bowlers.sumOf(BOWL_OUTS, SEATS);
                case 15:
                    return batters.howMany(BAT_STATE, STATE_RUN_OUT);
                default:
                    return 0;
            }
        }

        private void hit(int runs) {
            batters.add(faces, BAT_RUNS, runs);
            bowlers.add(bowler, BOWL_RUNS, runs);
            score += runs;
            cross(runs);
        }

        private void concede() {
            bowlers.add(bowler, BOWL_RUNS, 1);
            extras++;
            score++;
        }

        private void runOfNobody(int runs) {
            nobodys += runs;
            extras += runs;
            score += runs;
            cross(runs);
        }

        private void cross(int runs) {
            if (runs % 2 != 0) {
                changeEnds();
            }
        }

        private void changeEnds() {
            int faced = faces;
            faces = other;
            other = faced;
        }

        private void leave(boolean whoFaces, int how) {
            batters.set(whoFaces ? faces : other, BAT_STATE, how);
            outs++;
            overs.add(begun - 1, OVER_OUTS, 1);
            int comes = NONE;
            if (outs < MOST_OUTS) {
                comes = next;
                next++;
                batters.set(comes, BAT_STATE, STATE_IN);
            }
            if (whoFaces) {
                faces = comes;
            } else {
                other = comes;
            }
        }

        private void takeAway(int lost) {
            int ahead = table(ballsLeft(), outs);
            allowed -= lost;
            means -= ahead - table(ballsLeft(), outs);
        }

        private void endOver(boolean isOpen) {
            overs.set(begun - 1, OVER_WHOLE, 1);
            if (isOpen) {
                overs.set(begun - 1, OVER_OPEN, 1);
                open++;
            }
            whole++;
            counted = 0;
            changeEnds();
        }
    }

    /** Goes over a page, up to its end or to the first thing on it that can't be. */
    private static final class Play {
        private final Tally[] tallies = new Tally[MOST_TURNS];
        private final Tally outside = new Tally();
        private int gameOvers;
        private int lastTurn;
        private int atHand;
        private int winner;
        private int rule;
        private int badTurn;
        private int badOver;
        private int badEntry;

        Play() {
            for (int t = 0; t < tallies.length; t++) {
                tallies[t] = new Tally();
            }
            atHand = NONE;
        }

        Tally tallyAt(int turn) {
            return turn >= 0 && turn < MOST_TURNS ? tallies[turn] : outside;
        }

        void replay(Game page) {
            start(page);
            for (int t = 0; t < page.turnCount(); t++) {
                if (stops(ruleOfTurn(t), t, NONE, NONE)) {
                    return;
                }
                beginTurn(t);
                for (int o = 0; o < page.overCountOf(t); o++) {
                    Over over = page.overAt(t, o);
                    if (over == null || stops(ruleOfOver(over.bowler), t, o, NONE)) {
                        return;
                    }
                    tallyAt(t).beginOver(over);
                    endTurn(false);
                    for (int i = 0; i < over.size; i++) {
                        if (stops(ruleOfEntry(over.at(i)), t, o, i)) {
                            return;
                        }
                        tallyAt(t).playEntry(over.at(i));
                        endTurn(over.at(i) / 16 == CLOSE);
                    }
                }
            }
        }

        int ruleOfTurn(int turn) {
            if (turn > 0 && tallyAt(turn - 1).ended == 0) {
                return 1;
            }
            return winner != 0 || turn > lastTurn ? 2 : 0;
        }

        int ruleOfOver(int bowler) {
            return tallyAt(atHand).ruleOfOver(bowler, (gameOvers + 4) / 5);
        }

        int ruleOfEntry(int entry) {
            return tallyAt(atHand).ruleOfEntry(entry, lastTurn == 1);
        }

        int figure(int what) {
            switch (what) {
                case 0:
                    return atHand;
                case 10:
                    return winner;
                case 11:
                    return rule;
                case 12:
                    return badTurn;
                case 13:
                    return badOver;
                case 14:
                    return badEntry;
                default:
                    return atHand == NONE ? NONE : figureAtHand(what);
            }
        }

        private int figureAtHand(int what) {
            Tally tally = tallyAt(atHand);
            switch (what) {
                case 1:
                    return tally.faces;
                case 2:
                    return tally.other;
                case 3:
                    return tally.bowler;
                case 4:
                    return tally.ballsLeft();
                case 5:
                    return tally.ended;
                case 9:
                    return tally.score + stillToBeHad(tally);
                default:
                    return atHand == lastTurn ? figureOfChase(tally, what) : NONE;
            }
        }

        private int figureOfChase(Tally tally, int what) {
            int needed = Math.max(target() - tally.score, 0);
            switch (what) {
                case 6:
                    return target();
                case 7:
                    return needed;
                default:
                    return needed <= stillToBeHad(tally) ? 1 : 0;
            }
        }

        private int stillToBeHad(Tally tally) {
            return tally.ended != 0 ? 0 : BEST_OF_BALL * tally.ballsLeft();
        }

        private void start(Game page) {
            gameOvers = page.overs;
            lastTurn = 2 * page.turnsOfEach - 1;
            atHand = NONE;
            winner = 0;
            rule = 0;
            badTurn = NONE;
            badOver = NONE;
            badEntry = NONE;
            for (int t = 0; t < page.turnCount(); t++) {
                tallyAt(t).clear();
            }
        }

        private boolean stops(int byRule, int turn, int over, int entry) {
            if (byRule == 0) {
                return false;
            }
            rule = byRule;
            badTurn = turn;
            badOver = over;
            badEntry = entry;
            return true;
        }

        private void beginTurn(int turn) {
            atHand = turn;
            boolean takesOver = turn == 1 && lastTurn == 1;
            tallyAt(turn).begin(takesOver ? tallyAt(0).allowed : gameOvers);
        }

        private int target() {
            if (lastTurn > 1) {
                return tallyAt(0).score + tallyAt(2).score - tallyAt(1).score + 1;
            }
            int score = tallyAt(0).score;
            int means = tallyAt(0).means;
            int ownMeans = tallyAt(1).means;
            if (ownMeans > means) {
                return score + 200 * (ownMeans - means) / 1000 + 1;
            }
            return means > 0 ? score * ownMeans / means + 1 : 1;
        }

        private void endTurn(boolean closed) {
            Tally tally = tallyAt(atHand);
            if (atHand == lastTurn && tally.score >= target()) {
                tally.ended = BY_WIN;
            } else if (tally.outs >= MOST_OUTS) {
                tally.ended = BY_OUTS;
            } else if (closed) {
                tally.ended = BY_CLOSE;
            } else if (tally.whole >= tally.allowed) {
                tally.ended = BY_OVERS;
            }
            if (tally.ended != 0) {
                findWinner(tally);
            }
        }

        private void findWinner(Tally tally) {
            if (atHand == lastTurn) {
                int needed = target() - tally.score;
                winner = needed <= 0 ? WON_BY_1 : needed == 1 ? TIE : WON_BY_0;
            } else if (atHand == 2 && target() < 1) {
                winner = WON_BY_1;
            }
        }
    }

    /** The best of all games, each with its number, game, turn, side, player and runs. */
    private static final class Records {
        private final Grid best = new Grid(RECORDS, RECORD_FIGURES);
        private final Grid totals = new Grid(MOST_SIDES, MOST_PLAYERS);

        void clear() {
            best.fill(NONE);
            totals.fill(0);
        }

        void addTurn(int game, int turn, Game page, Tally tally) {
            int bats = page.sideAt(turn % 2);
            int fields = page.sideAt(1 - turn % 2);
            if (tally.score > best.at(BEST_SCORE, 0)) {
                note(BEST_SCORE, tally.score, game, turn, bats, NONE, 0);
            }
            for (int seat = 0; seat < SEATS; seat++) {
                int batter = page.playerAt(turn % 2, seat);
                int runs = tally.batters.at(seat, BAT_RUNS);
                totals.add(bats, batter, runs);
                if (runs > best.at(MOST_RUNS, 0)) {
                    note(MOST_RUNS, runs, game, turn, bats, batter, 0);
                }
                int outs = tally.bowlers.at(seat, BOWL_OUTS);
                int given = tally.bowlers.at(seat, BOWL_RUNS);
                if (tally.bowlers.at(seat, BOWL_OVERS) > 0 && isBetterBowler(outs, given)) {
                    note(BEST_BOWLER, outs, game, turn, fields, page.playerAt(1 - turn % 2, seat), given);
                }
            }
        }

        void addTotals(int side, int players) {
            for (int player = 0; player < players; player++) {
                int runs = totals.at(side, player);
                if (runs > best.at(MOST_RUNS_OF_ALL, 0)) {
                    note(MOST_RUNS_OF_ALL, runs, NONE, NONE, side, player, 0);
                }
            }
        }

        private boolean isBetterBowler(int outs, int runs) {
            int most = best.at(BEST_BOWLER, 0);
            return outs > most || outs == most && runs < best.at(BEST_BOWLER, 5);
        }

        private void note(int sort, int number, int game, int turn, int side, int player, int runs) {
            best.set(sort, 0, number);
            best.set(sort, 1, game);
            best.set(sort, 2, turn);
            best.set(sort, 3, side);
            best.set(sort, 4, player);
            best.set(sort, 5, runs);
        }
    }

    /** Reads an image byte by byte and keeps the place of the first one that is wrong. */
    private static final class Reader {
        private final int[] scores = new int[MOST_TURNS];
        private Bytes bytes;
        private int end;
        private int place;
        private int wrong;

        Reader() {
            bytes = null;
            wrong = NONE;
        }

        void start(Bytes from, int n) {
            bytes = from;
            end = n;
            place = 0;
            wrong = NONE;
        }

        boolean isRight() {
            return wrong == NONE;
        }

        Game readHead(int[] players, int sides) {
            next(IMAGE_MARK, IMAGE_MARK);
            int bats = next(0, sides - 1);
            int fields = next(0, sides - 1);
            if (fields == bats) {
                fail(place - 1);
            }
            int overs = next(1, MOST_OVERS);
            int turns = next(1, 2);
            Game page = new Game(bats, fields, overs, turns);
            for (int side = 0; side < 2; side++) {
                int number = page.sideAt(side);
                readPlayers(page, side, number >= 0 && number < players.length ? players[number] : 0);
            }
            return page;
        }

        void readTurns(Game page) {
            int turns = next(0, 2 * page.turnsOfEach);
            for (int t = 0; t < turns && t < MOST_TURNS && isRight(); t++) {
                Turn turn = new Turn();
                page.addTurn(turn);
                int overs = next(0, IMAGE_OVERS);
                for (int o = 0; o < overs && isRight(); o++) {
                    readOver(turn);
                }
                int high = next(0, 255);
                scores[t] = 256 * high + next(0, 255);
            }
        }

        void readEnd() {
            if (place < end) {
                fail(place);
            }
        }

        void compare(Game page, Play play) {
            if (play.rule != 0) {
                fail(page.placeOf(play.badTurn, play.badOver, play.badEntry));
            }
            for (int t = 0; t < page.turnCount() && t < MOST_TURNS; t++) {
                int due = play.tallyAt(t).score;
                int at = page.placeOf(t, page.overCountOf(t), NONE);
                if (scores[t] / 256 != due / 256) {
                    fail(at);
                } else if (scores[t] != due) {
                    fail(at + 1);
                }
            }
        }

        private void readPlayers(Game page, int side, int players) {
            for (int seat = 0; seat < SEATS && isRight(); seat++) {
                int player = next(0, players - 1);
                for (int other = 0; other < seat; other++) {
                    if (page.playerAt(side, other) == player) {
                        fail(place - 1);
                    }
                }
                page.seats.set(side, seat, player);
            }
        }

        private void readOver(Turn turn) {
            int bowler = next(0, 15);
            int size = next(0, MOST_ENTRIES + 1) - 1;
            Over over = new Over(bowler, Math.min(size, 0));
            for (int i = 0; i < size && isRight(); i++) {
                over.insert(i, next(0, 255));
            }
            turn.addOver(over);
        }

        /** Behind the first wrong byte nothing is read any more. */
        private int next(int least, int most) {
            if (!isRight() || bytes == null) {
                return least;
            }
            int b = place < end ? bytes.at(place) : NONE;
            if (b < least || b > most) {
                fail(place);
                return least;
            }
            place++;
            return b;
        }

        private void fail(int at) {
            if (wrong == NONE) {
                wrong = at;
            }
        }
    }
}

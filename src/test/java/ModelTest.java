import java.util.ArrayList;
import java.util.Arrays;
import java.util.List;
import java.util.NoSuchElementException;
import java.util.Random;

/** Random runs of calls, each answered by BallBook and by a slow model that keeps every event and sums anew. */
public final class ModelTest {
    private static int wrong = 0;
    private static final String[] NAMES = {
        "side", "player", "toss", "seat", "turn", "over", "ball", "feed", "open", "tear", "put", "mend", "out", "bowls",
        "undo", "why", "now", "score", "overs", "entry", "bats", "fields", "record", "image", "told", "check", "take",
        "list", "sum"};
    private static final int[] EDGES = {
        Integer.MIN_VALUE, Integer.MIN_VALUE + 1, -256, -2, -1, 3, 4, 5, 10, 11, 12, 15, 16, 40, 41, 60, 120, 121, 130,
        400, 6000, 8000, Integer.MAX_VALUE - 1, Integer.MAX_VALUE};
    private static final long THREW = Long.MIN_VALUE + 7;

    public static void main(String[] args) {
        int runs = args.length > 0 ? Integer.parseInt(args[0]) : 2500;
        for (int seed = 0; seed < runs && wrong < 20; seed++) {
            new Run(seed).go();
        }
        System.out.println(wrong == 0 ? "model and book agree" : wrong + " answers differ");
        if (wrong != 0) {
            System.exit(1);
        }
    }

    private static final class Run {
        private final Random random;
        private final long seed;
        private final BallBook book = new BallBook();
        private final Model model = new Model();
        private final StringBuilder told = new StringBuilder();
        private final int most;
        private int calls = 0;
        private boolean agree = true;

        Run(long seed) {
            this.seed = seed;
            random = new Random(seed);
            most = seed % 10 == 0 ? 512 : 260;
        }

        int any(int bound) {
            return random.nextInt(bound);
        }

        void go() {
            call("side", 11 + any(4));
            call("side", 11 + any(3));
            if (any(3) == 0) {
                call("side", 28 + any(4));
            }
            int games = 1 + any(3);
            for (int g = 0; g < games; g++) {
                int bats = any(2);
                call("toss", bats, 1 - bats, 1 + any(any(4) == 0 ? 120 : any(3) == 0 ? 12 : 3), 1 + any(2));
            }
            while (calls < most && agree) {
                step();
            }
            for (int g = 0; g < model.games.size() && agree; g++) {
                for (int what = 0; what < 15; what++) {
                    call("now", g, what);
                }
                call("sum", g);
            }
        }

        void step() {
            int r = any(100);
            int g = any(40) == 0 ? any(5) - 1 : any(Math.max(1, model.games.size()));
            if (r < 48) {
                playOn(g);
            } else if (r < 62) {
                edit(g);
            } else if (r < 66) {
                call("undo");
            } else if (r < 70) {
                imageAndBack(g);
            } else if (r < 73) {
                small();
            } else if (r < 98) {
                ask(g);
            } else {
                wild();
            }
        }

        /** Any call with any numbers, the greatest and the smallest among them. */
        void wild() {
            String name = NAMES[any(NAMES.length)];
            int[] a = new int[5];
            for (int k = 0; k < a.length; k++) {
                a[k] = any(3) == 0 ? EDGES[any(EDGES.length)] : any(3) == 0 ? random.nextInt() : any(3);
            }
            call(name, a);
        }

        int goodEntry() {
            int[] some = {0, 1, 2, 3, 4, 6, 16, 17, 18, 32, 33, 36, 48, 49, 50, 51, 64, 65, 66, 67, 69, 71, 80, 97, 98, 112, 129, 130, 144};
            return some[any(some.length - (any(4) == 0 ? 0 : 3))];
        }

        void playOn(int g) {
            int r = any(30);
            if (r == 0) {
                call("turn", g);
            } else if (r == 1) {
                call("over", g, any(14) - 1);
            } else if (r == 2) {
                call("ball", g, any(3) == 0 ? random.nextInt() : any(256));
            } else if (!call("ball", g, goodEntry())) {
                int why = model.why();
                call("why");
                if (why == 8 || why == 9 || why == 11) {
                    if (!call("over", g, any(11)) && model.why() != 5 && model.why() != 6) {
                        call("why");
                        call("turn", g);
                    }
                    call("why");
                } else if (why != 10) {
                    call("undo");
                }
            } else if (any(20) == 0) {
                call("over", g, any(11));
            }
        }

        int[] place(int g) {
            Model.Page page = g >= 0 && g < model.games.size() ? model.games.get(g) : null;
            int turns = page == null ? 1 : page.turns.size();
            int t = any(10) == 0 ? any(6) - 1 : turns == 0 ? 0 : any(turns);
            int overs = page == null || t < 0 || t >= turns ? 1 : page.turns.get(t).size();
            int o = any(10) == 0 ? any(6) - 1 : overs == 0 ? 0 : any(overs);
            int size = page == null || t < 0 || t >= turns || o < 0 || o >= overs || page.turns.get(t).get(o).row == null ? 1 : page.turns.get(t).get(o).row.size();
            int i = any(10) == 0 ? any(44) - 2 : any(size + 1);
            return new int[] {t, o, i};
        }

        void edit(int g) {
            int[] p = place(g);
            int entry = any(6) == 0 ? random.nextInt() : any(6) == 0 ? 128 + any(16) : goodEntry();
            switch (any(7)) {
                case 0: call("put", g, p[0], p[1], p[2], entry); break;
                case 1: call("mend", g, p[0], p[1], p[2], entry); break;
                case 2: call("out", g, p[0], p[1], p[2]); break;
                case 3: call("bowls", g, p[0], p[1], any(5) == 0 ? random.nextInt() : any(11)); break;
                case 4: call("tear", g, p[0], p[1]); break;
                case 5: feedRow(); call("open", g, p[0], p[1], any(8) == 0 ? any(50) - 4 : any(9)); break;
                default: call("undo"); break;
            }
            if (any(3) > 0) {
                call("now", g, 11);
                call("sum", g);
                if (any(3) > 0) {
                    call("undo");
                }
            }
        }

        void feedRow() {
            int[] n = new int[5];
            for (int i = 0; i < 20; i++) {
                n[i / 4] = n[i / 4] << 8 | goodEntry();
            }
            call("feed", n[0], n[1], n[2], n[3], n[4]);
        }

        void imageAndBack(int g) {
            call("image", g);
            int size = model.out.size();
            if (any(4) == 0) {
                call("told", any(size + 3) - 1);
            }
            if (model.tape.size() > 0) {
                call("check", model.tape.size());
            }
            int[] bytes = new int[(size + 19) / 20 * 20];
            for (int i = 0; i < size; i++) {
                bytes[i] = model.out.get(i);
            }
            for (int spoil = any(3); spoil > 0 && size > 0; spoil--) {
                int at = any(3) == 0 ? any(Math.min(size, 40)) : any(size);
                bytes[at] = any(3) == 0 ? any(256) : (bytes[at] + any(5) - 2) & 255;
            }
            if (calls + size / 20 + 3 > most) {
                return;
            }
            for (int i = 0; i < bytes.length; i += 20) {
                int[] n = new int[5];
                for (int k = 0; k < 20; k++) {
                    n[k / 4] = n[k / 4] << 8 | bytes[i + k];
                }
                call("feed", n[0], n[1], n[2], n[3], n[4]);
            }
            int n = any(4) == 0 ? any(bytes.length + 4) - 2 : size;
            call(any(2) == 0 ? "check" : "take", n);
            call("list", 2);
        }

        void small() {
            switch (any(8)) {
                case 0: call("side", any(36)); break;
                case 1: call("player", any(5) - 1); break;
                case 2: call("toss", any(4) - 1, any(4), any(10), any(4)); break;
                case 3: case 4: case 5: call("seat", any(4), any(4) - 1, any(13) - 1, any(15) - 1); break;
                case 6: call("check", any(4) - 1); break;
                default: call("list", any(12) - 1); break;
            }
        }

        void ask(int g) {
            int[] p = place(g);
            int seat = any(15) == 0 ? any(14) - 2 : any(11);
            switch (any(10)) {
                case 0: case 1: call("now", g, any(17) - 1); break;
                case 2: case 3: call("score", g, p[0], any(18) - 1); break;
                case 4: call("overs", g, p[0], p[1], any(10) - 1); break;
                case 5: call("entry", g, p[0], p[1], p[2]); break;
                case 6: call("bats", g, p[0], seat, any(6) - 1); break;
                case 7: call("fields", g, p[0], seat, any(6) - 1); break;
                case 8: call("record", any(6) - 1, any(8) - 1); break;
                default: call("sum", g); call("list", any(6)); break;
            }
        }

        /** True where both answered and the answer was neither false nor NONE. */
        boolean call(String name, int... a) {
            calls++;
            told.append(name).append(Arrays.toString(a)).append('\n');
            long got;
            try {
                got = ofBook(name, a);
            } catch (NoSuchElementException e) {
                got = e.getClass() == NoSuchElementException.class ? THREW : THREW + 1;
            }
            long due;
            try {
                due = model.answer(name, a);
            } catch (NoSuchElementException e) {
                due = THREW;
            }
            if (got != due) {
                wrong++;
                agree = false;
                String all = told.toString();
                System.out.println("seed " + seed + " call " + calls + ": book " + got + ", model " + due + "\n" + all.substring(Math.max(0, all.length() - 900)));
            }
            return due != 0 && due != -1 && due != THREW;
        }

        long ofBook(String name, int[] a) {
            switch (name) {
                case "side": return book.side(a[0]);
                case "player": return book.player(a[0]);
                case "toss": return book.toss(a[0], a[1], a[2], a[3]);
                case "seat": return book.seat(a[0], a[1], a[2], a[3]) ? 1 : 0;
                case "turn": return book.turn(a[0]) ? 1 : 0;
                case "over": return book.over(a[0], a[1]) ? 1 : 0;
                case "ball": return book.ball(a[0], a[1]) ? 1 : 0;
                case "feed": return book.feed(a[0], a[1], a[2], a[3], a[4]);
                case "open": return book.open(a[0], a[1], a[2], a[3]) ? 1 : 0;
                case "tear": return book.tear(a[0], a[1], a[2]) ? 1 : 0;
                case "put": return book.put(a[0], a[1], a[2], a[3], a[4]) ? 1 : 0;
                case "mend": return book.mend(a[0], a[1], a[2], a[3], a[4]);
                case "out": return book.out(a[0], a[1], a[2], a[3]);
                case "bowls": return book.bowls(a[0], a[1], a[2], a[3]);
                case "undo": return book.undo();
                case "why": return book.why();
                case "now": return book.now(a[0], a[1]);
                case "score": return book.score(a[0], a[1], a[2]);
                case "overs": return book.overs(a[0], a[1], a[2], a[3]);
                case "entry": return book.entry(a[0], a[1], a[2], a[3]);
                case "bats": return book.bats(a[0], a[1], a[2], a[3]);
                case "fields": return book.fields(a[0], a[1], a[2], a[3]);
                case "record": return book.record(a[0], a[1]);
                case "image": return book.image(a[0]);
                case "told": return book.told(a[0]);
                case "check": return book.check(a[0]);
                case "take": return book.take(a[0]);
                case "list": return book.list(a[0]);
                default: return book.sum(a[0]);
            }
        }
    }

    /** The document once more, in its slowest form. */
    private static final class Model {
        static final class Row {
            int bowler;
            List<Integer> row = new ArrayList<>();
        }

        static final class Page {
            int[] sides;
            int overs;
            int each;
            int[][] seats = new int[2][11];
            List<List<Row>> turns = new ArrayList<>();
        }

        static final class Event {
            int turn;
            int over;
            int kind;
            int v;
            int bowler;
            int faced;
            int ofBat;
            int ofBowler;
            int ofNobody;
            int extras;
            int leaves = -1;
            int how;
        }

        static final class Played {
            List<Event> events = new ArrayList<>();
            int[] allowed = new int[4];
            int[] means = new int[4];
            int[] ended = new int[4];
            int[][] ends = new int[4][];
            List<List<Integer>> begun = new ArrayList<>();
            List<List<Integer>> wholeOnes = new ArrayList<>();
            List<List<Integer>> openOnes = new ArrayList<>();
            int[][] states = new int[4][11];
            int atHand = -1;
            int winner;
            int[] bad = {0, -1, -1, -1};

            Played() {
                for (int t = 0; t < 4; t++) {
                    begun.add(new ArrayList<>());
                    wholeOnes.add(new ArrayList<>());
                    openOnes.add(new ArrayList<>());
                }
            }
        }

        static final class WrongByte extends Exception {
            private static final long serialVersionUID = 1L;
            final int place;

            WrongByte(int place) {
                this.place = place;
            }
        }

        List<Integer> sides = new ArrayList<>();
        List<Page> games = new ArrayList<>();
        List<Integer> tape = new ArrayList<>();
        List<Integer> out = new ArrayList<>();
        List<Object[]> undos = new ArrayList<>();
        int why = 0;

        int why() {
            return why;
        }

        long answer(String name, int[] a) {
            switch (name) {
                case "side":
                    if (sides.size() >= 60 || a[0] < 11 || a[0] > 30) return -1;
                    sides.add(a[0]);
                    return sides.size() - 1;
                case "player":
                    if (a[0] < 0 || a[0] >= sides.size() || sides.get(a[0]) == 30) return -1;
                    sides.set(a[0], sides.get(a[0]) + 1);
                    return sides.get(a[0]) - 1;
                case "toss": return toss(a[0], a[1], a[2], a[3]);
                case "seat": return seat(a[0], a[1], a[2], a[3]);
                case "turn": case "over": case "ball":
                    why = whyNot(name, a);
                    if (why == -2) {
                        why = 0;
                        return 0;
                    }
                    return why == 0 ? 1 : 0;
                case "feed":
                    if (tape.size() + 20 > 6000) return -1;
                    for (int n : a) for (int s = 24; s >= 0; s -= 8) tape.add(n >>> s & 255);
                    return tape.size();
                case "open": case "tear": case "put": case "mend": case "out": case "bowls": return edit(name, a);
                case "undo":
                    if (undos.isEmpty()) return -1;
                    Object[] u = undos.remove(undos.size() - 1);
                    games.get((Integer) u[0]).turns = copy(((Page) u[1]).turns);
                    return (Integer) u[0];
                case "why": return why;
                case "now": return now(page(a[0]), a[1]);
                case "score": return score(page(a[0]), a[1], a[2]);
                case "overs": return overs(page(a[0]), a[1], a[2], a[3]);
                case "entry": {
                    Row r = row(page(a[0]), a[1], a[2]);
                    if (r.row == null || a[3] < 0 || a[3] >= r.row.size()) throw new NoSuchElementException();
                    return r.row.get(a[3]);
                }
                case "bats": return bats(page(a[0]), a[1], a[2], a[3]);
                case "fields": return fields(page(a[0]), a[1], a[2], a[3]);
                case "record": return record(a[0], a[1]);
                case "image": return image(a[0]);
                case "told":
                    if (a[0] < 0 || a[0] >= out.size()) throw new NoSuchElementException();
                    return out.get(a[0]);
                case "check": case "take": return checkOrTake(name.equals("take"), a[0]);
                case "list": {
                    int[] n = {sides.size(), games.size(), tape.size(), undos.size(), out.size()};
                    if (a[0] < 0 || a[0] >= 5 + sides.size()) throw new NoSuchElementException();
                    return a[0] < 5 ? n[a[0]] : sides.get(a[0] - 5);
                }
                default: return sum(page(a[0]));
            }
        }

        Page page(int g) {
            if (g < 0 || g >= games.size()) throw new NoSuchElementException();
            return games.get(g);
        }

        List<Row> turnOf(Page p, int t) {
            if (t < 0 || t >= p.turns.size()) throw new NoSuchElementException();
            return p.turns.get(t);
        }

        Row row(Page p, int t, int o) {
            List<Row> rows = turnOf(p, t);
            if (o < 0 || o >= rows.size()) throw new NoSuchElementException();
            return rows.get(o);
        }

        int toss(int bats, int fields, int overs, int turns) {
            if (games.size() == 400 || bats < 0 || bats >= sides.size() || fields < 0 || fields >= sides.size() || bats == fields) return -1;
            if (overs < 1 || overs > 120 || turns != 1 && turns != 2) return -1;
            Page p = new Page();
            p.sides = new int[] {bats, fields};
            p.overs = overs;
            p.each = turns;
            for (int s = 0; s < 11; s++) p.seats[0][s] = p.seats[1][s] = s;
            games.add(p);
            return games.size() - 1;
        }

        int seat(int g, int side, int seat, int player) {
            if (g < 0 || g >= games.size() || side < 0 || side > 1 || seat < 0 || seat > 10) return 0;
            Page p = games.get(g);
            if (player < 0 || player >= sides.get(p.sides[side]) || !p.turns.isEmpty()) return 0;
            int held = -1;
            for (int s = 0; s < 11; s++) if (p.seats[side][s] == player) held = s;
            if (held >= 0) p.seats[side][held] = p.seats[side][seat];
            p.seats[side][seat] = player;
            return 1;
        }

        List<List<Row>> copy(List<List<Row>> turns) {
            List<List<Row>> all = new ArrayList<>();
            for (List<Row> rows : turns) {
                List<Row> mine = new ArrayList<>();
                for (Row r : rows) {
                    Row c = new Row();
                    c.bowler = r.bowler;
                    c.row = r.row == null ? null : new ArrayList<>(r.row);
                    mine.add(c);
                }
                all.add(mine);
            }
            return all;
        }

        void remember(int g, Page p) {
            Page c = new Page();
            c.turns = copy(p.turns);
            undos.add(new Object[] {g, c});
            if (undos.size() > 40) undos.remove(0);
        }

        /** Tries the change on a copy of the page and looks whether play goes through all of it. */
        int whyNot(String name, int[] a) {
            if (a[0] < 0 || a[0] >= games.size()) return -2;
            Page p = games.get(a[0]);
            int bad = play(p).bad[0];
            if (bad != 0) return bad;
            List<List<Row>> before = copy(p.turns);
            List<List<Row>> after = copy(p.turns);
            List<Row> last = after.isEmpty() ? null : after.get(after.size() - 1);
            if (name.equals("turn")) {
                after.add(new ArrayList<>());
            } else if (name.equals("over")) {
                if (last == null) return 11;
                Row r = new Row();
                r.bowler = a[1];
                last.add(r);
            } else {
                if (last == null || last.isEmpty() || last.get(last.size() - 1).row == null) return 11;
                List<Integer> row = last.get(last.size() - 1).row;
                if (row.size() == 40) return 12;
                row.add(a[1] & 255);
            }
            p.turns = after;
            bad = play(p).bad[0];
            p.turns = before;
            if (bad == 0) {
                remember(a[0], p);
                p.turns = after;
            }
            return bad;
        }

        int edit(String name, int[] a) {
            int not = name.equals("open") || name.equals("tear") || name.equals("put") ? 0 : -1;
            Row r;
            try {
                r = row(page(a[0]), a[1], a[2]);
            } catch (NoSuchElementException e) {
                return not;
            }
            int size = r.row == null ? -1 : r.row.size();
            switch (name) {
                case "open":
                    if (a[3] < 0 || a[3] > 40 || a[3] > tape.size()) return not;
                    remember(a[0], games.get(a[0]));
                    r.row = new ArrayList<>(tape.subList(0, a[3]));
                    tape.clear();
                    return 1;
                case "tear":
                    if (size < 0) return not;
                    remember(a[0], games.get(a[0]));
                    r.row = null;
                    return 1;
                case "put":
                    if (size < 0 || size == 40 || a[3] < 0 || a[3] > size) return not;
                    remember(a[0], games.get(a[0]));
                    r.row.add(a[3], a[4] & 255);
                    return 1;
                case "mend":
                    if (a[3] < 0 || a[3] >= size) return not;
                    remember(a[0], games.get(a[0]));
                    return r.row.set(a[3], a[4] & 255);
                case "out":
                    if (a[3] < 0 || a[3] >= size) return not;
                    remember(a[0], games.get(a[0]));
                    return r.row.remove(a[3]);
                default:
                    remember(a[0], games.get(a[0]));
                    int was = r.bowler;
                    r.bowler = a[3] & 15;
                    return was;
            }
        }

        static int table(long b, long w) {
            return (int) Math.floorDiv(1000 * (100 - w * w) * b * (1440 - b), 51840000L);
        }

        int counted(Played d, int t, int o) {
            int n = 0;
            for (Event e : d.events) if (e.turn == t && e.over == o && counts(e.kind)) n++;
            return n;
        }

        static boolean counts(int kind) {
            return kind == 0 || kind == 3 || kind == 4 || kind == 6;
        }

        int runs(Played d, int t) {
            int n = 0;
            for (Event e : d.events) if (e.turn == t) n += e.ofBat + e.extras;
            return n;
        }

        int outs(Played d, int t) {
            int n = 0;
            for (Event e : d.events) if (e.turn == t && e.leaves >= 0) n++;
            return n;
        }

        int left(Played d, int t) {
            int o = d.begun.get(t).size() - 1;
            int atHand = o < 0 || d.wholeOnes.get(t).contains(o) ? 0 : counted(d, t, o);
            return 6 * d.allowed[t] - 6 * d.wholeOnes.get(t).size() - atHand;
        }

        int target(Page p, Played d) {
            if (p.each == 2) return runs(d, 0) + runs(d, 2) - runs(d, 1) + 1;
            int a = runs(d, 0);
            int m = d.means[0];
            int n = d.means[1];
            if (n <= m) return m == 0 ? 1 : a * n / m + 1;
            return a + 200 * (n - m) / 1000 + 1;
        }

        Played play(Page p) {
            Played d = new Played();
            for (int t = 0; t < p.turns.size(); t++) {
                if (t > 0 && d.ended[t - 1] == 0) return stop(d, 1, t, -1, -1);
                if (d.winner != 0 || t >= 2 * p.each) return stop(d, 2, t, -1, -1);
                d.atHand = t;
                d.allowed[t] = p.each == 1 && t == 1 ? d.allowed[0] : p.overs;
                d.means[t] = table(6 * d.allowed[t], 0);
                d.ends[t] = new int[] {0, 1};
                d.states[t][0] = d.states[t][1] = 1;
                for (int o = 0; o < p.turns.get(t).size(); o++) {
                    Row r = p.turns.get(t).get(o);
                    int rule = overRule(p, d, t, r.bowler);
                    if (rule != 0) return stop(d, rule, t, o, -1);
                    if (o > 0 && !d.wholeOnes.get(t).contains(o - 1)) wholeNow(d, t, o - 1, true);
                    d.begun.get(t).add(r.bowler);
                    if (r.row == null) {
                        wholeNow(d, t, o, true);
                        ends(p, d, t, false);
                        continue;
                    }
                    for (int i = 0; i < r.row.size(); i++) {
                        rule = entryRule(p, d, t, o, r.row.get(i));
                        if (rule != 0) return stop(d, rule, t, o, i);
                        entry(d, t, o, r.row.get(i));
                        ends(p, d, t, r.row.get(i) == 144);
                    }
                }
            }
            return d;
        }

        Played stop(Played d, int... bad) {
            d.bad = bad;
            return d;
        }

        void wholeNow(Played d, int t, int o, boolean open) {
            d.wholeOnes.get(t).add(o);
            if (open) d.openOnes.get(t).add(o);
            flip(d, t);
        }

        void flip(Played d, int t) {
            d.ends[t] = new int[] {d.ends[t][1], d.ends[t][0]};
        }

        int overRule(Page p, Played d, int t, int bowler) {
            List<Integer> begun = d.begun.get(t);
            if (d.ended[t] != 0 || begun.size() >= d.allowed[t]) return 3;
            if (bowler < 0 || bowler > 10) return 4;
            if (!begun.isEmpty() && begun.get(begun.size() - 1) == bowler) return 5;
            int mine = 0;
            for (int b : begun) if (b == bowler) mine++;
            return mine * 5 >= p.overs ? 6 : 0;
        }

        int entryRule(Page p, Played d, int t, int o, int b) {
            int v = b % 16;
            boolean can;
            switch (b / 16) {
                case 0: case 2: can = v <= 6; break;
                case 1: can = v <= 4; break;
                case 3: can = v <= 3; break;
                case 4: can = v <= 7; break;
                case 5: case 7: can = true; break;
                case 6: can = v >= 1 && v <= 4; break;
                case 8: can = v >= 1; break;
                case 9: can = v == 0; break;
                default: can = false; break;
            }
            if (!can) return 7;
            if (d.ended[t] != 0) return 8;
            if (counted(d, t, o) == 6 && (counts(b / 16) || b / 16 == 1 || b / 16 == 2)) return 9;
            return b / 16 == 8 && (p.each == 2 || d.allowed[t] - v < d.begun.get(t).size()) ? 10 : 0;
        }

        void entry(Played d, int t, int o, int b) {
            Event e = new Event();
            e.turn = t;
            e.over = o;
            e.kind = b / 16;
            e.v = b % 16;
            e.bowler = d.begun.get(t).get(o);
            e.faced = d.ends[t][0];
            int run = 0;
            int outs = outs(d, t);
            switch (e.kind) {
                case 0: run = e.ofBat = e.ofBowler = e.v; break;
                case 1: run = e.ofNobody = e.v; e.ofBowler = 1; e.extras = 1 + e.v; break;
                case 2: run = e.ofBat = e.v; e.ofBowler = e.v + 1; e.extras = 1; break;
                case 4: run = e.ofBat = e.ofBowler = e.v / 2; break;
                case 6: run = e.ofNobody = e.extras = e.v; break;
                case 8: {
                    int b0 = left(d, t);
                    d.allowed[t] -= e.v;
                    d.means[t] -= table(b0, outs) - table(left(d, t), outs);
                    break;
                }
                default: break;
            }
            if ((run & 1) == 1) flip(d, t);
            if (e.kind == 3 || e.kind == 4) {
                int end = e.kind == 3 ? 0 : e.v % 2;
                e.leaves = d.ends[t][end];
                e.how = e.kind == 3 ? 2 + e.v : 6;
                d.states[t][e.leaves] = e.how;
                int next = outs + 2;
                d.ends[t][end] = outs == 9 ? -1 : next;
                if (outs != 9) d.states[t][next] = 1;
            }
            d.events.add(e);
            if (counts(e.kind) && counted(d, t, o) == 6) wholeNow(d, t, o, false);
        }

        void ends(Page p, Played d, int t, boolean close) {
            boolean last = t == 2 * p.each - 1;
            int target = last || t == 2 ? target(p, d) : 0;
            boolean won = last && runs(d, t) >= target;
            d.ended[t] = won ? 4 : outs(d, t) == 10 ? 1 : close ? 3 : d.wholeOnes.get(t).size() >= d.allowed[t] ? 2 : 0;
            if (d.ended[t] == 0) return;
            if (last) d.winner = won ? 2 : runs(d, t) == target - 1 ? 3 : 1;
            else if (t == 2 && target < 1) d.winner = 2;
        }

        int now(Page p, int what) {
            if (what < 0 || what > 14) throw new NoSuchElementException();
            Played d = play(p);
            int t = d.atHand;
            if (what == 0) return t;
            if (what == 10) return d.winner;
            if (what >= 11) return d.bad[what - 11];
            if (t < 0) return -1;
            List<Integer> begun = d.begun.get(t);
            boolean last = t == 2 * p.each - 1;
            int need = last ? Math.max(0, target(p, d) - runs(d, t)) : -1;
            switch (what) {
                case 1: case 2: return d.ends[t][what - 1];
                case 3: return begun.isEmpty() ? -1 : begun.get(begun.size() - 1);
                case 4: return left(d, t);
                case 5: return d.ended[t];
                case 6: return last ? target(p, d) : -1;
                case 7: return need;
                case 8: return !last ? -1 : d.ended[t] != 0 ? (need == 0 ? 1 : 0) : need <= 6 * left(d, t) ? 1 : 0;
                default: return runs(d, t) + (d.ended[t] != 0 ? 0 : 6 * left(d, t));
            }
        }

        int score(Page p, int t, int what) {
            List<Row> rows = turnOf(p, t);
            if (what < 0 || what > 15) throw new NoSuchElementException();
            Played d = play(p);
            int extras = 0;
            int ofBat = 0;
            int ofBowlers = 0;
            int nobodys = 0;
            int bowled = 0;
            int runOut = 0;
            for (Event e : d.events) {
                if (e.turn != t) continue;
                extras += e.extras;
                ofBat += e.ofBat;
                ofBowlers += e.ofBowler;
                nobodys += e.ofNobody;
                bowled += e.kind == 3 ? 1 : 0;
                runOut += e.kind == 4 ? 1 : 0;
            }
            int o = d.begun.get(t).size() - 1;
            switch (what) {
                case 0: return runs(d, t);
                case 1: return outs(d, t);
                case 2: return d.wholeOnes.get(t).size();
                case 3: return o < 0 || d.wholeOnes.get(t).contains(o) ? 0 : counted(d, t, o);
                case 4: return extras;
                case 5: return d.allowed[t];
                case 6: return d.ended[t];
                case 7: return d.openOnes.get(t).size();
                case 8: return d.means[t];
                case 9: return t <= d.atHand ? 1 : 0;
                case 10: return rows.size();
                case 11: return ofBat + extras;
                case 12: return ofBowlers + nobodys;
                case 13: return ofBowlers + nobodys;
                case 14: return bowled;
                default: return runOut;
            }
        }

        int overs(Page p, int t, int o, int what) {
            Row r = row(p, t, o);
            if (what < 0 || what > 7) throw new NoSuchElementException();
            Played d = play(p);
            int runs = 0;
            int outs = 0;
            for (Event e : d.events) {
                if (e.turn == t && e.over == o) {
                    runs += e.ofBat + e.extras;
                    outs += e.leaves >= 0 ? 1 : 0;
                }
            }
            switch (what) {
                case 0: return r.bowler;
                case 1: return r.row == null ? -1 : r.row.size();
                case 2: return runs;
                case 3: return outs;
                case 4: return counted(d, t, o);
                case 5: return d.wholeOnes.get(t).contains(o) ? 1 : 0;
                case 6: return d.openOnes.get(t).contains(o) ? 1 : 0;
                default: return o < d.begun.get(t).size() ? 1 : 0;
            }
        }

        int bats(Page p, int t, int seat, int what) {
            turnOf(p, t);
            if (seat < 0 || seat > 10 || what < 0 || what > 3) throw new NoSuchElementException();
            Played d = play(p);
            if (what == 2) return d.states[t][seat];
            if (what == 3) return p.seats[t % 2][seat];
            int n = 0;
            for (Event e : d.events) {
                if (e.turn == t && e.faced == seat) n += what == 0 ? e.ofBat : counts(e.kind) || e.kind == 2 ? 1 : 0;
            }
            return n;
        }

        int fields(Page p, int t, int seat, int what) {
            turnOf(p, t);
            if (seat < 0 || seat > 10 || what < 0 || what > 3) throw new NoSuchElementException();
            if (what == 3) return p.seats[(t + 1) % 2][seat];
            Played d = play(p);
            int n = 0;
            if (what == 0) for (int b : d.begun.get(t)) n += b == seat ? 1 : 0;
            else for (Event e : d.events) if (e.turn == t && e.bowler == seat) n += what == 1 ? e.ofBowler : e.kind == 3 ? 1 : 0;
            return n;
        }

        int record(int sort, int what) {
            if (sort < 0 || sort > 3 || what < 0 || what > 5) throw new NoSuchElementException();
            int[] best = null;
            int[][] totals = new int[60][30];
            for (int g = 0; g < games.size(); g++) {
                Page p = games.get(g);
                for (int t = 0; t < p.turns.size(); t++) {
                    if (sort == 2) best = better(best, new int[] {score(p, t, 0), g, t, p.sides[t % 2], -1, 0});
                    for (int s = 0; s < 11 && sort != 2; s++) {
                        int runs = bats(p, t, s, 0);
                        totals[p.sides[t % 2]][p.seats[t % 2][s]] += runs;
                        if (sort == 0) best = better(best, new int[] {runs, g, t, p.sides[t % 2], p.seats[t % 2][s], 0});
                        if (sort == 1 && fields(p, t, s, 0) > 0) best = better(best, new int[] {fields(p, t, s, 2), g, t, p.sides[1 - t % 2], p.seats[1 - t % 2][s], fields(p, t, s, 1)});
                    }
                }
            }
            if (sort == 3) {
                for (int s = 0; s < sides.size(); s++) for (int k = 0; k < sides.get(s); k++) best = better(best, new int[] {totals[s][k], -1, -1, s, k, 0});
            }
            return best == null ? -1 : best[what];
        }

        int[] better(int[] best, int[] other) {
            if (best == null || other[0] > best[0]) return other;
            return other[0] == best[0] && other[5] < best[5] ? other : best;
        }

        List<Integer> bytesOf(Page p) {
            List<Integer> b = new ArrayList<>();
            b.add(66);
            b.add(p.sides[0]);
            b.add(p.sides[1]);
            b.add(p.overs);
            b.add(p.each);
            for (int[] side : p.seats) for (int k : side) b.add(k);
            b.add(p.turns.size());
            Played d = play(p);
            for (int t = 0; t < p.turns.size(); t++) {
                b.add(p.turns.get(t).size());
                for (Row r : p.turns.get(t)) {
                    b.add(r.bowler);
                    b.add(r.row == null ? 0 : r.row.size() + 1);
                    if (r.row != null) b.addAll(r.row);
                }
                b.add(runs(d, t) / 256);
                b.add(runs(d, t) % 256);
            }
            return b;
        }

        int image(int g) {
            if (g < 0 || g >= games.size()) return -1;
            out = bytesOf(games.get(g));
            if (out.size() > 8000) {
                out = new ArrayList<>();
                return -1;
            }
            return out.size();
        }

        int checkOrTake(boolean take, int n) {
            if (n < 0 || n > tape.size() || take && games.size() == 400) return -1;
            List<Integer> b = new ArrayList<>(tape.subList(0, n));
            tape.clear();
            try {
                Page p = parse(b);
                if (!take) return 0;
                games.add(p);
                return games.size() - 1;
            } catch (WrongByte w) {
                return take ? -2 - w.place : w.place + 1;
            }
        }

        static int read(List<Integer> b, int[] at, int least, int most) throws WrongByte {
            if (at[0] >= b.size() || b.get(at[0]) < least || b.get(at[0]) > most) throw new WrongByte(at[0]);
            return b.get(at[0]++);
        }

        Page parse(List<Integer> b) throws WrongByte {
            int[] at = {0};
            read(b, at, 66, 66);
            Page p = new Page();
            int one = read(b, at, 0, sides.size() - 1);
            int two = read(b, at, 0, sides.size() - 1);
            if (one == two) throw new WrongByte(2);
            p.sides = new int[] {one, two};
            p.overs = read(b, at, 1, 120);
            p.each = read(b, at, 1, 2);
            for (int s = 0; s < 2; s++) {
                List<Integer> seen = new ArrayList<>();
                for (int k = 0; k < 11; k++) {
                    p.seats[s][k] = read(b, at, 0, sides.get(p.sides[s]) - 1);
                    if (seen.contains(p.seats[s][k])) throw new WrongByte(at[0] - 1);
                    seen.add(p.seats[s][k]);
                }
            }
            int turns = read(b, at, 0, 2 * p.each);
            List<int[]> places = new ArrayList<>();
            List<Integer> scorePlaces = new ArrayList<>();
            for (int t = 0; t < turns; t++) {
                List<Row> rows = new ArrayList<>();
                p.turns.add(rows);
                places.add(new int[] {t, -1, -1, at[0]});
                int overs = read(b, at, 0, 130);
                for (int o = 0; o < overs; o++) {
                    Row r = new Row();
                    rows.add(r);
                    places.add(new int[] {t, o, -1, at[0]});
                    r.bowler = read(b, at, 0, 15);
                    int size = read(b, at, 0, 41);
                    if (size == 0) r.row = null;
                    for (int i = 0; i + 1 < size; i++) {
                        places.add(new int[] {t, o, i, at[0]});
                        r.row.add(read(b, at, 0, 255));
                    }
                }
                scorePlaces.add(at[0]);
                read(b, at, 0, 255);
                read(b, at, 0, 255);
            }
            if (at[0] < b.size()) throw new WrongByte(at[0]);
            Played d = play(p);
            for (int[] q : places) {
                if (d.bad[0] != 0 && q[0] == d.bad[1] && q[1] == d.bad[2] && q[2] == d.bad[3]) throw new WrongByte(q[3]);
            }
            List<Integer> due = bytesOf(p);
            for (int place : scorePlaces) {
                for (int k = place; k < place + 2; k++) if (!due.get(k).equals(b.get(k))) throw new WrongByte(k);
            }
            return p;
        }

        long sum(Page p) {
            long n = 0;
            for (int w = 0; w < 15; w++) n = n * 31 + now(p, w);
            for (int t = 0; t < p.turns.size(); t++) {
                for (int w = 0; w < 16; w++) n = n * 31 + score(p, t, w);
                for (int s = 0; s < 11; s++) {
                    for (int w = 0; w < 4; w++) n = n * 31 + bats(p, t, s, w);
                    for (int w = 0; w < 4; w++) n = n * 31 + fields(p, t, s, w);
                }
            }
            return n;
        }
    }
}

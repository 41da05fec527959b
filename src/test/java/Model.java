import java.util.ArrayList;
import java.util.HashMap;
import java.util.List;
import java.util.Map;
import java.util.TreeMap;

/**
 * The document once more, written the slow way and apart from the class: states are copied turn by turn, texts are
 * read as they stand each time, faults are found by a row of open signs. ModelTest compares the two.
 */
final class Model {
    private static final int BAD = -1, NOT = -2, FULL = -3, STATE = -4, VOID = -2000000000;

    /** The state of one game behind a turn: cells of pieces, who is gone, coins; and how it came. */
    private static final class State {
        final Map<Integer, Integer> cell = new TreeMap<>();
        final Map<Integer, Boolean> gone = new TreeMap<>();
        final Map<Integer, Integer> coins = new TreeMap<>();
        final Map<Integer, Integer> fee = new HashMap<>();
        final Map<Integer, Integer> led = new HashMap<>();
        final Map<Integer, Integer> failed = new HashMap<>();

        State copy() {
            State s = new State();
            s.cell.putAll(cell);
            s.gone.putAll(gone);
            s.coins.putAll(coins);
            return s;
        }
    }

    private static final class Game {
        int seed, began, runner = -1, times;
        final int[] value = new int[48];
        final boolean[] wall = new boolean[48];
        final List<State> states = new ArrayList<>();

        int turn() {
            return states.size() - 1;
        }

        State now() {
            return states.get(turn());
        }
    }

    private record Rule(int game, int use, int made, int from, String text) { }

    private record Card(int holder, int of, int sent, int in, int sentTurn, int turn) {
        boolean late() {
            return turn >= 0 && turn != sentTurn;
        }
    }

    private record Order(int kind, int card, int piece, int what, int at, int first, int second) { }

    private record Deed(int what, int at) { }

    private int day;
    private final List<Game> games = new ArrayList<>();
    private final List<int[]> holders = new ArrayList<>();   // game, dropped, proxy, paid
    private final List<int[]> pieces = new ArrayList<>();    // holder, force
    private final List<Rule> rules = new ArrayList<>();
    private final List<Card> cards = new ArrayList<>();
    private final List<Order> orders = new ArrayList<>();
    private String tape = "";
    private final List<Integer> wayPieces = new ArrayList<>();
    private final List<List<Deed>> ways = new ArrayList<>();
    private List<Integer> best = new ArrayList<>();
    private final List<Integer> ran = new ArrayList<>();
    private final Object[] shelves = new Object[6];          // null, an Integer (an order), or a Row

    private record Row(int sort, long[] at) { }

    // ---- small things

    private static boolean in(int v, int least, int most) {
        return v >= least && v <= most;
    }

    private static int far(int a, int b) {
        return Math.abs(a / 6 - b / 6) + Math.abs(a % 6 - b % 6);
    }

    private boolean isGame(int g) {
        return in(g, 0, games.size() - 1);
    }

    private boolean isHolder(int h) {
        return in(h, 0, holders.size() - 1);
    }

    private boolean isPiece(int p) {
        return in(p, 0, pieces.size() - 1);
    }

    private int gameOf(int piece) {
        return holders.get(pieces.get(piece)[0])[0];
    }

    private State nowOf(int piece) {
        return games.get(gameOf(piece)).now();
    }

    private boolean there(int piece) {
        return !nowOf(piece).gone.get(piece);
    }

    private static int pieceAt(State s, int cell) {
        for (int p : s.cell.keySet()) {
            if (!s.gone.get(p) && s.cell.get(p) == cell) return p;
        }
        return -1;
    }

    private int number(State s, int holder) {
        int n = 0;
        for (int p : s.cell.keySet()) {
            if (pieces.get(p)[0] == holder && !s.gone.get(p)) n++;
        }
        return n;
    }

    // ---- days, games

    int days(int n) {
        if (!in(n, 1, 60) || day + n > 999) return BAD;
        return day += n;
    }

    int game(int seed) {
        if (games.size() == 3) return FULL;
        Game g = new Game();
        g.seed = seed;
        g.began = day;
        for (int i = 0; i < 48; i++) g.value[i] = 1;
        g.states.add(new State());
        games.add(g);
        return games.size() - 1;
    }

    int cell(int cell, int what, int v) {
        if (cell < 0 || cell >= 100 * games.size() || cell % 100 > 47 || !in(what, 0, 1) || !in(v, 0, what == 0 ? 9 : 1)) return BAD;
        Game g = games.get(cell / 100);
        int c = cell % 100;
        if (g.turn() > 0) return STATE;
        if (what == 1) {
            if (v == 1 && pieceAt(g.now(), c) >= 0) return NOT;
            int was = g.wall[c] ? 1 : 0;
            g.wall[c] = v != 0;
            return was;
        }
        int was = g.value[c];
        g.value[c] = v;
        return was;
    }

    int holder(int game, int coins) {
        if (!isGame(game) || !in(coins, 0, 9999)) return BAD;
        if (games.get(game).turn() > 0) return STATE;
        if (holders.size() == 12) return FULL;
        holders.add(new int[] {game, -1, -1, 0});
        games.get(game).now().coins.put(holders.size() - 1, coins);
        return holders.size() - 1;
    }

    int runs(int holder, int game) {
        if (!isHolder(holder) || !isGame(game)) return VOID;
        int was = games.get(game).runner;
        games.get(game).runner = holder;
        return was;
    }

    int drops(int holder, int proxy) {
        if (!isHolder(holder)) return BAD;
        int[] h = holders.get(holder);
        if (proxy != -1 && (!isHolder(proxy) || proxy == holder || holders.get(proxy)[0] != h[0])) return BAD;
        if (h[1] >= 0) return STATE;
        h[1] = games.get(h[0]).turn();
        h[2] = proxy;
        return 1;
    }

    int piece(int holder, int cell, int force) {
        if (!isHolder(holder) || !in(cell, 0, 47) || !in(force, 1, 9)) return BAD;
        Game g = games.get(holders.get(holder)[0]);
        if (g.wall[cell]) return BAD;
        if (g.turn() > 0) return STATE;
        if (pieceAt(g.now(), cell) >= 0) return NOT;
        if (pieces.size() == 40) return FULL;
        pieces.add(new int[] {holder, force});
        g.now().cell.put(pieces.size() - 1, cell);
        g.now().gone.put(pieces.size() - 1, false);
        return pieces.size() - 1;
    }

    int ofPiece(int p, int what) {
        if (!isPiece(p) || !in(what, 0, 5)) return VOID;
        State s = nowOf(p);
        int[] all = {pieces.get(p)[0], s.cell.get(p), pieces.get(p)[1], s.gone.get(p) ? 1 : 0, s.led.getOrDefault(p, -1),
            s.failed.getOrDefault(p, 0)};
        return all[what];
    }

    int ofHolder(int h, int what) {
        if (!isHolder(h) || !in(what, 0, 7)) return VOID;
        int[] one = holders.get(h);
        Game g = games.get(one[0]);
        int owed = 0;
        for (State s : g.states) owed += s.fee.getOrDefault(h, 0);
        int[] all = {one[0], g.now().coins.get(h), one[1], one[2], number(g.now(), h), owed, one[3], Math.max(0, one[3] - owed)};
        return all[what];
    }

    int ofGame(int game, int what) {
        if (!isGame(game)) return what == 2 ? VOID : BAD;
        Game g = games.get(game);
        if (!in(what, 0, 3)) return BAD;
        return new int[] {g.turn(), g.began + 7 * (g.turn() + 1), g.runner, g.times}[what];
    }

    // ---- rules

    int feed(int n, int v) {
        if (!in(n, 1, 4)) return BAD;
        if (tape.length() + n > 160) return FULL;
        for (int i = 0; i < n; i++) tape += (char) ((v >> (8 * i)) & 0xff);
        return tape.length();
    }

    int rule(int what, int from) {
        if (what < 0 || what / 10 >= games.size() || what % 10 > 4 || !in(from, 0, 29)) return BAD;
        if (rules.size() == 20) return FULL;
        int fault = fault(tape);
        String text = tape;
        tape = "";
        if (fault >= 0) return -100 - fault;
        rules.add(new Rule(what / 10, what % 10, day, from, text));
        return rules.size() - 1;
    }

    /** Goes through a text sign by sign; open holds the ( ! - that are open, compared tells it of each open E. */
    static int fault(String text) {
        StringBuilder open = new StringBuilder();
        List<Boolean> compared = new ArrayList<>(List.of(false));
        boolean wantsOperand = true, asked = false;
        int digits = 0;
        for (int i = 0; i < text.length(); i++) {
            char c = text.charAt(i);
            int top = compared.size() - 1;
            if (wantsOperand) {
                if (c == '(' || c == '!' || c == '-') {
                    if (open.length() == 8) return i;
                    open.append(c);
                    if (c == '(') compared.add(false);
                    continue;
                }
                digits = c >= '0' && c <= '9' ? 1 : 0;
                if (digits == 0 && "tpfhcodvnzw".indexOf(c) < 0) return i;
                close(open);
                wantsOperand = false;
            } else if (c >= '0' && c <= '9') {
                if (digits == 0 || digits == 4) return i;
                digits++;
            } else {
                digits = 0;
                if (c == ')') {
                    if (open.length() == 0) return i;
                    open.setLength(open.length() - 1);
                    compared.remove(top);
                    close(open);
                } else if ("+-*/%".indexOf(c) >= 0) {
                    wantsOperand = true;
                } else if ("<=>".indexOf(c) >= 0) {
                    if (compared.get(top)) return i;
                    compared.set(top, true);
                    wantsOperand = true;
                } else if (c == '&' || c == '|') {
                    compared.set(top, false);
                    wantsOperand = true;
                } else if (c == '?' && open.length() == 0 && !asked || c == ';' && open.length() == 0) {
                    asked = c == '?';
                    compared.set(0, false);
                    wantsOperand = true;
                } else {
                    return i;
                }
            }
        }
        return wantsOperand || open.length() > 0 ? text.length() : -1;
    }

    private static void close(StringBuilder open) {
        while (open.length() > 0 && open.charAt(open.length() - 1) != '(') open.setLength(open.length() - 1);
    }

    /** The worth of a text: it is parted at the weakest sign outside of ( ). */
    private static int worth(String text, Map<Character, Integer> names) {
        for (String line : text.split(";")) {
            int q = line.indexOf('?');
            if (q < 0) return e(line, names);
            if (e(line.substring(0, q), names) != 0) return e(line.substring(q + 1), names);
        }
        return 0;
    }

    private static int e(String s, Map<Character, Integer> names) {
        String[] levels = {"|", "&", "<=>", "+-", "*/%"};
        for (String level : levels) {
            int at = lastOutside(s, level);
            if (at < 0) continue;
            int a = e(s.substring(0, at), names), b = e(s.substring(at + 1), names);
            switch (s.charAt(at)) {
                case '|': return (a != 0) || (b != 0) ? 1 : 0;
                case '&': return (a != 0) && (b != 0) ? 1 : 0;
                case '<': return a < b ? 1 : 0;
                case '=': return a == b ? 1 : 0;
                case '>': return a > b ? 1 : 0;
                case '+': return (int) ((long) a + b);
                case '-': return (int) ((long) a - b);
                case '*': return (int) ((long) a * b);
                case '/': return b == 0 ? 0 : (int) ((long) a / b);
                default: return b == 0 ? 0 : (int) ((long) a % b);
            }
        }
        char c = s.charAt(0);
        if (c == '!') return e(s.substring(1), names) == 0 ? 1 : 0;
        if (c == '-') return (int) -(long) e(s.substring(1), names);
        if (c == '(') return e(s.substring(1, s.length() - 1), names);
        if (Character.isDigit(c)) return Integer.parseInt(s);
        return names.getOrDefault(c, 0);
    }

    /** The last place of one of these signs that joins two operands and stands outside of all ( ). */
    private static int lastOutside(String s, String signs) {
        int depth = 0;
        for (int i = s.length() - 1; i > 0; i--) {
            char c = s.charAt(i);
            if (c == ')') depth++;
            if (c == '(') depth--;
            if (depth != 0 || signs.indexOf(c) < 0) continue;
            char before = s.charAt(i - 1);
            if (Character.isLetterOrDigit(before) || before == ')') return i;
        }
        return -1;
    }

    private int inForceNow(int game, int use, int t, int k) {
        int found = -1;
        for (int r = 0; r < rules.size(); r++) {
            Rule one = rules.get(r);
            if (one.game == game && one.use == use && one.made <= k && one.from <= t) found = r;
        }
        return found;
    }

    int inForce(int what, int t, int k) {
        if (what < 0 || what / 10 >= games.size() || what % 10 > 4 || !in(t, 0, 29) || !in(k, 0, 999)) return BAD;
        int found = inForceNow(what / 10, what % 10, t, k);
        return found < 0 ? NOT : found;
    }

    private int ask(int game, int use, int t, int k, Map<Character, Integer> names) {
        int r = inForceNow(game, use, t, k);
        if (r >= 0) return worth(rules.get(r).text, names);
        return new int[] {1, 0, 2, 1, 0}[use];
    }

    private Map<Character, Integer> named(State s, int p, Deed deed, int t) {
        Map<Character, Integer> m = new HashMap<>();
        int h = pieces.get(p)[0];
        int d = deed.what == 1 ? deed.at : s.cell.get(p);
        m.put('t', t);
        m.put('p', p);
        m.put('f', pieces.get(p)[1]);
        m.put('h', h);
        m.put('c', s.cell.get(p));
        m.put('o', deed.what);
        m.put('d', d);
        m.put('v', games.get(gameOf(p)).value[d]);
        m.put('n', number(s, h));
        m.put('w', s.coins.get(h));
        return m;
    }

    private int sight(int p) {
        Game g = games.get(gameOf(p));
        int v = ask(gameOf(p), 2, g.turn(), day, named(g.now(), p, new Deed(0, 0), g.turn()));
        return Math.max(0, Math.min(9, v));
    }

    private int fee(int h, int t, int n, int w) {
        int v = ask(holders.get(h)[0], 4, t, day, Map.of('t', t, 'h', h, 'n', n, 'w', w));
        return Math.max(0, Math.min(9999, v));
    }

    int says(int use, int of) {
        if (use == 2) return isPiece(of) ? sight(of) : BAD;
        if (use != 4 || !isHolder(of)) return BAD;
        Game g = games.get(holders.get(of)[0]);
        return fee(of, g.turn(), number(g.now(), of), g.now().coins.get(of));
    }

    int drawn(int p, int t) {
        if (!isPiece(p) || !in(t, 0, 29)) return BAD;
        int s = games.get(gameOf(p)).seed + 7919 * t + 104729 * p;
        return (s * 1103515245 + 12345 >>> 8) % 100;
    }

    // ---- cards, orders

    int card(int holder, int of, int way) {
        if (!isHolder(holder) || !isHolder(of) || !in(way, 0, 9)) return BAD;
        if (holder != of && !(holders.get(of)[1] >= 0 && holders.get(of)[2] == holder)) return BAD;
        if (cards.size() == 150) return FULL;
        Game g = games.get(holders.get(of)[0]);
        int t = g.turn();
        while (t < 30 && g.began + 7 * (t + 1) < day + way) t++;
        cards.add(new Card(holder, of, day, day + way, g.turn(), t < 30 ? t : -1));
        return cards.size() - 1;
    }

    private boolean counts(Card c) {
        if (c.turn < 0) return false;
        return !c.late() || ask(holders.get(c.of)[0], 3, c.sentTurn, c.in, Map.of('t', c.sentTurn, 'h', c.of)) != 0;
    }

    int ofCard(int card, int what) {
        if (!in(card, 0, cards.size() - 1) || !in(what, 0, 5)) return BAD;
        Card c = cards.get(card);
        if (what == 3 && c.turn < 0) return NOT;
        return new int[] {c.holder, c.of, c.in, c.turn, c.late() ? 1 : 0, counts(c) ? 1 : 0}[what];
    }

    private boolean tellable(int p, int what, int at) {
        if (!isPiece(p) || !there(p)) return false;
        switch (what) {
            case 0: return true;
            case 1: return in(at, 0, 47);
            case 2: return isPiece(at) && at != p && gameOf(at) == gameOf(p) && there(at);
            default: return false;
        }
    }

    int order(int card, int piece, int what, int at) {
        if (!in(card, 0, cards.size() - 1) || !tellable(piece, what, at)) return BAD;
        if (pieces.get(piece)[0] != cards.get(card).of) return BAD;
        if (cards.get(card).sent != day) return STATE;
        if (orders.size() == 300) return FULL;
        orders.add(new Order(1, card, piece, what, at, -1, -1));
        return orders.size() - 1;
    }

    int turn(int kind, int a, int b) {
        int last = orders.size() - 1;
        boolean told = kind == 2 ? in(a, 0, 47) && in(b, 0, 1) : kind == 3 ? in(a, 0, 29) : kind == 4 && in(a, 0, 299) && a != last;
        if (!told) return BAD;
        if (last < 0 || orders.get(last).kind != 1) return STATE;
        Order o = orders.get(last);
        Card c = cards.get(o.card);
        if (c.sent != day) return STATE;
        int now = kind == 3 && c.of != c.holder ? 5 : kind;
        orders.set(last, new Order(now, o.card, o.piece, o.what, o.at, a, kind == 2 ? b : -1));
        return now;
    }

    int ofOrder(int order, int what) {
        if (!in(order, 0, orders.size() - 1) || !in(what, 0, 6)) return VOID;
        Order o = orders.get(order);
        return new int[] {o.kind, o.card, o.piece, o.what, o.at, o.first, o.second}[what];
    }

    int read(int card, int shelf, int i, int n) {
        if (!in(card, 0, cards.size() - 1) || !in(shelf, 0, 5) || !in(n, 1, 15)) return BAD;
        if (cards.get(card).sent != day) return STATE;
        Object held = shelves[shelf];
        if (held == null) return 0;
        if (!(held instanceof Row r) || r.sort != 0) return -12;
        int came = 0;
        for (long place = i; came < n && place >= 0 && place < r.at.length && orders.size() < 300; place += 4) {
            int at = (int) place;
            Order o = new Order(6, card, -1, 0, 0, -1, -1);
            if (at + 3 < r.at.length) {
                int p = (int) r.at[at], what = (int) r.at[at + 1], goal = (int) r.at[at + 2];
                boolean so = r.at[at + 3] == 0 && tellable(p, what, goal) && pieces.get(p)[0] == cards.get(card).of;
                if (so && what == 1) {
                    so = far(nowOf(p).cell.get(p), goal) == 1 && !games.get(gameOf(p)).wall[goal];
                }
                if (so) o = new Order(1, card, p, what, goal, -1, -1);
            }
            orders.add(o);
            came++;
        }
        return came;
    }

    private boolean can(State s, int p, Deed d) {
        if (d.what == 1) return far(s.cell.get(p), d.at) == 1 && !games.get(gameOf(p)).wall[d.at];
        return d.what != 2 || !s.gone.get(d.at);
    }

    private boolean may(State s, int p, Deed d, int t) {
        return ask(gameOf(p), 0, t, day, named(s, p, d, t)) != 0;
    }

    /** Whether an order counts for turn t and can and may be, as s stands in the game of the turn, or as others stand. */
    private boolean counts(Order o, int t, int game, State s) {
        if (o.kind == 6) return false;
        State its = gameOf(o.piece) == game ? s : nowOf(o.piece);
        if (its.gone.get(o.piece)) return false;
        Card c = cards.get(o.card);
        if (!counts(c)) return false;
        boolean standing = o.kind == 3 || o.kind == 5;
        if (standing ? !in(t, c.turn, o.first) : t != c.turn) return false;
        int dropped = holders.get(c.of)[1];
        if (dropped >= 0 && dropped <= t && c.of == c.holder && !(o.kind == 3 && c.turn < dropped)) return false;
        Deed d = new Deed(o.what, o.at);
        return can(its, o.piece, d) && may(its, o.piece, d, t);
    }

    private int orderIn(State s, int game, int p, int t) {
        if (s.gone.get(p)) return -1;
        int found = -1;
        for (int i = 0; i < orders.size(); i++) {
            Order o = orders.get(i);
            if (o.piece != p || !counts(o, t, game, s)) continue;
            if (o.kind == 2 && (pieceAt(s, o.first) < 0 ? 1 : 0) != o.second) continue;
            if (o.kind == 4) {
                if (o.first >= orders.size()) continue;
                Order other = orders.get(o.first);
                if (other.kind != 4 || other.first != i || !counts(other, t, game, s)) continue;
            }
            found = i;
        }
        return found;
    }

    int orderOf(int p) {
        if (!isPiece(p)) return VOID;
        int g = gameOf(p);
        return orderIn(games.get(g).now(), g, p, games.get(g).turn());
    }

    // ---- turns

    private Map<Integer, Deed> deeds(State s, int game, int t, Map<Integer, Integer> led) {
        Map<Integer, Deed> all = new TreeMap<>();
        for (int p : s.cell.keySet()) {
            if (s.gone.get(p)) continue;
            int o = orderIn(s, game, p, t);
            led.put(p, o);
            all.put(p, o < 0 ? new Deed(0, 0) : new Deed(orders.get(o).what, orders.get(o).at));
        }
        return all;
    }

    private static int goal(State s, Map<Integer, Deed> deeds, int p) {
        return deeds.get(p).what == 1 ? deeds.get(p).at : s.cell.get(p);
    }

    private int strength(State s, Map<Integer, Deed> deeds, int p) {
        int sum = pieces.get(p)[1];
        for (int q : deeds.keySet()) {
            Deed d = deeds.get(q);
            if (d.what != 2 || d.at != p || far(s.cell.get(q), goal(s, deeds, p)) != 1) continue;
            boolean cut = false;
            for (int r : deeds.keySet()) {
                cut |= deeds.get(r).what == 1 && deeds.get(r).at == s.cell.get(q) && pieces.get(r)[0] != pieces.get(q)[0];
            }
            if (!cut) sum += pieces.get(q)[1];
        }
        return sum;
    }

    /** The state behind turn t, if these deeds are done in it. */
    private State behind(State s, int game, int t, Map<Integer, Deed> deeds) {
        Map<Integer, Integer> failed = new TreeMap<>(), power = new TreeMap<>(), tie = new TreeMap<>();
        for (int p : deeds.keySet()) {
            power.put(p, strength(s, deeds, p));
            if (deeds.get(p).what != 1) continue;
            Map<Character, Integer> names = named(s, p, deeds.get(p), t);
            names.put('z', drawn(p, t));
            tie.put(p, ask(game, 1, t, day, names));
            failed.put(p, 0);
        }
        for (int p : failed.keySet()) {
            for (int q : failed.keySet()) {
                if (p == q || deeds.get(p).at != deeds.get(q).at) continue;
                boolean before = power.get(p) > power.get(q) || power.get(p).equals(power.get(q)) && tie.get(p) > tie.get(q);
                if (!before) failed.put(p, 1);
            }
        }
        List<Integer> second = new ArrayList<>();
        for (int p : failed.keySet()) {
            int q = pieceAt(s, deeds.get(p).at);
            if (failed.get(p) != 0 || q < 0 || failed.getOrDefault(q, 1) != 0 || deeds.get(q).at != s.cell.get(p)) continue;
            if (power.get(p) <= power.get(q)) second.add(p);
        }
        for (int p : second) failed.put(p, 2);
        for (boolean changed = true; changed;) {
            changed = false;
            for (int p : failed.keySet()) {
                int q = pieceAt(s, deeds.get(p).at);
                if (failed.get(p) != 0 || q < 0 || failed.getOrDefault(q, 1) == 0) continue;
                int hold = failed.containsKey(q) ? pieces.get(q)[1] : power.get(q);
                if (pieces.get(q)[0] == pieces.get(p)[0] || hold >= power.get(p)) {
                    failed.put(p, 3);
                    changed = true;
                }
            }
        }
        State next = s.copy();
        for (int p : failed.keySet()) {
            if (failed.get(p) != 0) continue;
            int q = pieceAt(s, deeds.get(p).at);
            if (q >= 0 && failed.getOrDefault(q, 1) != 0) next.gone.put(q, true);
            next.cell.put(p, deeds.get(p).at);
        }
        next.failed.putAll(failed);
        for (int h : s.coins.keySet()) {
            int dropped = holders.get(h)[1];
            if (dropped >= 0 && dropped <= t) continue;
            int coins = s.coins.get(h), fee = fee(h, t, number(next, h), coins);
            for (int p : next.cell.keySet()) {
                if (pieces.get(p)[0] == h && !next.gone.get(p)) coins += games.get(game).value[next.cell.get(p)];
            }
            next.coins.put(h, coins - fee);
            next.fee.put(h, fee);
        }
        return next;
    }

    private void doOne(int game) {
        Game g = games.get(game);
        Map<Integer, Integer> led = new HashMap<>();
        Map<Integer, Deed> deeds = deeds(g.now(), game, g.turn(), led);
        State next = behind(g.now(), game, g.turn(), deeds);
        next.led.putAll(led);
        g.states.add(next);
        g.times++;
    }

    int done(int game) {
        if (!isGame(game)) return BAD;
        Game g = games.get(game);
        if (g.turn() == 30) return FULL;
        if (day < g.began + 7 * (g.turn() + 1)) return NOT;
        doOne(game);
        return g.turn();
    }

    int again(int game, int t) {
        if (!isGame(game) || !in(t, 0, 29)) return BAD;
        Game g = games.get(game);
        int turns = g.turn();
        if (t >= turns) return NOT;
        State then = g.now();
        while (g.turn() > t) g.states.remove(g.turn());
        while (g.turn() < turns) doOne(game);
        int n = 0;
        for (int p : then.cell.keySet()) {
            if (place(then, p) != place(g.now(), p)) n++;
        }
        return n;
    }

    /** Where a piece is; NOT: nowhere, it is gone. */
    private static int place(State s, int p) {
        return s.gone.get(p) ? NOT : s.cell.get(p);
    }

    int was(int p, int t) {
        if (!isPiece(p)) return BAD;
        Game g = games.get(gameOf(p));
        if (!in(t, 0, g.turn() - 1)) return BAD;
        return place(g.states.get(t + 1), p);
    }

    // ---- sheets

    private boolean seesIt(int h, int cell) {
        for (int p = 0; p < pieces.size(); p++) {
            if (pieces.get(p)[0] == h && there(p) && far(nowOf(p).cell.get(p), cell) <= sight(p)) return true;
        }
        return false;
    }

    int sees(int h, int cell) {
        if (!isHolder(h) || !in(cell, 0, 47)) return BAD;
        if (!seesIt(h, cell)) return -5;
        int p = pieceAt(games.get(holders.get(h)[0]).now(), cell);
        return p < 0 ? NOT : p;
    }

    int alike(int a, int b) {
        if (!isHolder(a) || !isHolder(b) || holders.get(a)[0] != holders.get(b)[0]) return BAD;
        int n = 0;
        for (int c = 0; c < 48; c++) n += seesIt(a, c) == seesIt(b, c) ? 1 : 0;
        return n;
    }

    // ---- best rows

    int way(int p, int what, int at) {
        if (!tellable(p, what, at) || !can(nowOf(p), p, new Deed(what, at))) return BAD;
        if (!wayPieces.isEmpty() && pieces.get(wayPieces.get(0))[0] != pieces.get(p)[0]) return BAD;
        int s = wayPieces.indexOf(p);
        if (s < 0 && wayPieces.size() == 3 || s >= 0 && ways.get(s).size() == 4) return FULL;
        if (s < 0) {
            wayPieces.add(p);
            ways.add(new ArrayList<>());
            s = wayPieces.size() - 1;
        }
        ways.get(s).add(new Deed(what, at));
        return ways.get(s).size();
    }

    private boolean judging() {
        return !wayPieces.isEmpty() && games.get(gameOf(wayPieces.get(0))).turn() < 30;
    }

    private State played(List<Integer> row) {
        int game = gameOf(wayPieces.get(0));
        State s = games.get(game).now();
        int t = games.get(game).turn();
        Map<Integer, Deed> deeds = deeds(s, game, t, new HashMap<>());
        for (int i = 0; i < row.size(); i++) {
            int p = wayPieces.get(i);
            Deed d = ways.get(i).get(row.get(i));
            if (!s.gone.get(p)) deeds.put(p, can(s, p, d) && may(s, p, d, t) ? d : new Deed(0, 0));
        }
        return behind(s, game, t, deeds);
    }

    int best() {
        if (!judging()) return STATE;
        int holder = pieces.get(wayPieces.get(0))[0];
        List<List<Integer>> rows = new ArrayList<>(List.of(new ArrayList<>()));
        for (List<Deed> one : ways) {
            List<List<Integer>> longer = new ArrayList<>();
            for (List<Integer> row : rows) {
                for (int w = 0; w < one.size(); w++) {
                    List<Integer> more = new ArrayList<>(row);
                    more.add(w);
                    longer.add(more);
                }
            }
            rows = longer;
        }
        State top = null;
        for (List<Integer> row : rows) {
            State s = played(row);
            int more = top == null ? 1 : Integer.compare(s.coins.get(holder), top.coins.get(holder));
            if (more == 0) more = Integer.compare(number(s, holder), number(top, holder));
            if (more > 0) {
                top = s;
                best = row;
            }
        }
        wayPieces.clear();
        ways.clear();
        return top.coins.get(holder);
    }

    int bestWay(int i) {
        return in(i, 0, best.size() - 1) ? best.get(i) : BAD;
    }

    int judge(int row) {
        if (!judging() || row < 0) return VOID;
        StringBuilder digits = new StringBuilder().append(row);
        while (digits.length() < ways.size()) digits.insert(0, '0');
        if (digits.length() > ways.size()) return VOID;
        List<Integer> picked = new ArrayList<>();
        for (int i = 0; i < ways.size(); i++) {
            int w = digits.charAt(i) - '0';
            if (w >= ways.get(i).size()) return VOID;
            picked.add(w);
        }
        return played(picked).coins.get(pieces.get(wayPieces.get(0))[0]);
    }

    // ---- coins, bars

    int pay(int h, int coins) {
        if (!isHolder(h) || !in(coins, 1, 99999)) return BAD;
        return holders.get(h)[3] += coins;
    }

    int bar(int game) {
        if (!isGame(game)) return BAD;
        int r = games.get(game).runner, bits = 0;
        for (int h = 0; h < holders.size(); h++) {
            boolean itself = h == r && holders.get(h)[0] == game;
            int p = holders.get(h)[2];
            boolean under = p >= 0 && p == r && holders.get(p)[0] == game;
            if (itself || under) bits |= 1 << h;
        }
        return bits;
    }

    // ---- acts, shelves

    private interface Means {
        int means(int x);
    }

    /** The bodies as classes, as the document tells them. */
    private class Body implements Means {
        final int n, p, o;

        Body(int n, int p, int o) {
            this.n = n;
            this.p = p;
            this.o = o;
        }

        public int means(int x) {
            ran.add(1);
            return x + n;
        }

        int clashes(int x) {
            ran.add(10);
            return means(x) * 2;
        }

        int hides(int x) {
            ran.add(11);
            return x ^ n;
        }

        int ends(int x) {
            ran.add(2);
            return clashes(x) - hides(1);
        }
    }

    private class OrderBody extends Body {
        OrderBody(int n, int p, int o) {
            super(n, p, o);
        }

        public int means(int x) {
            ran.add(20);
            return super.means(x) + p;
        }
    }

    private class IfBody extends OrderBody {
        IfBody(int n, int p, int o) {
            super(n, p, o);
        }

        int hides(int x) {
            ran.add(30);
            return super.hides(x) + means(2);
        }
    }

    private class StandingBody extends OrderBody {
        StandingBody(int n, int p, int o) {
            super(n, p, o);
        }

        int clashes(int x) {
            ran.add(40);
            return super.clashes(x) - 1;
        }

        int ends(int x) {
            ran.add(41);
            return super.ends(x + 1);
        }
    }

    private class DealBody extends OrderBody {
        DealBody(int n, int p, int o) {
            super(n, p, o);
        }

        public int means(int x) {
            ran.add(50);
            return super.means(x) * 3;
        }
    }

    private class ProxyBody extends StandingBody {
        ProxyBody(int n, int p, int o) {
            super(n, p, o);
        }

        int clashes(int x) {
            ran.add(60);
            return -super.clashes(x);
        }

        int hides(int x) {
            ran.add(61);
            return super.hides(x) ^ 9;
        }
    }

    private class WrongBody extends OrderBody {
        WrongBody(int n, int p, int o) {
            super(n, p, o);
        }

        public int means(int x) {
            ran.add(70);
            return super.means(x) - o;
        }
    }

    private Body body(int n) {
        Order o = orders.get(n);
        switch (o.kind) {
            case 1: return new OrderBody(n, o.piece, o.what);
            case 2: return new IfBody(n, o.piece, o.what);
            case 3: return new StandingBody(n, o.piece, o.what);
            case 4: return new DealBody(n, o.piece, o.what);
            case 5: return new ProxyBody(n, o.piece, o.what);
            default: return new WrongBody(n, o.piece, o.what);
        }
    }

    int act(int order, int act, int x) {
        ran.clear();
        if (!in(order, 0, orders.size() - 1) || !in(act, 0, 3)) return 0;
        Body b = body(order);
        return act == 0 ? b.means(x) : act == 1 ? b.clashes(x) : act == 2 ? b.hides(x) : b.ends(x);
    }

    int trace(int i) {
        return in(i, 0, Math.min(ran.size(), 24) - 1) ? ran.get(i) : BAD;
    }

    int keep(int shelf, int order) {
        if (!in(shelf, 0, 5) || !in(order, -1, orders.size() - 1)) return BAD;
        shelves[shelf] = order < 0 ? null : Integer.valueOf(order);
        return 1;
    }

    int row(int shelf, int sort, int n) {
        if (!in(shelf, 0, 5) || !in(sort, 0, 4) || n > 60) return BAD;
        if (n < 0) return -14;
        shelves[shelf] = new Row(sort, new long[n]);
        return 1;
    }

    private int why(int shelf, int i) {
        if (!in(shelf, 0, 5)) return BAD;
        if (shelves[shelf] == null) return -11;
        if (!(shelves[shelf] instanceof Row r)) return -12;
        return in(i, 0, r.at.length - 1) ? 0 : -13;
    }

    int put(int shelf, int i, long v) {
        int no = why(shelf, i);
        if (no != 0) return no;
        Row r = (Row) shelves[shelf];
        int gone = r.sort == 0 ? 56 : r.sort == 1 ? 48 : r.sort == 2 ? 32 : 0;
        r.at[i] = r.sort == 4 ? (v == 0 ? 0 : 1) : v << gone >> gone;
        return 1;
    }

    long element(int shelf, int i) {
        return why(shelf, i) != 0 ? Long.MIN_VALUE : ((Row) shelves[shelf]).at[i];
    }

    int shift(int shelf, int i, int other, int j, int n) {
        if (!in(shelf, 0, 5) || !in(other, 0, 5)) return BAD;
        if (shelves[shelf] == null || shelves[other] == null) return -11;
        if (!(shelves[shelf] instanceof Row a) || !(shelves[other] instanceof Row b) || a.sort != b.sort) return -12;
        if (n < 0 || i < 0 || j < 0 || (long) i + n > a.at.length || (long) j + n > b.at.length) return -13;
        long[] ahead = a.at.clone();
        for (int k = 0; k < n; k++) b.at[j + k] = ahead[i + k];
        return n;
    }

    int taken(int shelf, int k) {
        if (!in(shelf, 0, 5) || !in(k, 0, 6)) return BAD;
        if (shelves[shelf] == null) return -11;
        if (!(shelves[shelf] instanceof Integer o)) return -12;
        Object b = body(o);
        Class<?>[] all = {Body.class, OrderBody.class, IfBody.class, StandingBody.class, DealBody.class, ProxyBody.class,
            WrongBody.class};
        return all[k].isInstance(b) ? orders.get(o).kind : -12;
    }

    int check(int game) {
        return isGame(game) ? 0 : BAD;
    }

    int count(int what) {
        int here = 0;
        for (int p = 0; p < pieces.size(); p++) here += there(p) ? 1 : 0;
        int[] all = {games.size(), holders.size(), pieces.size(), here, day, rules.size(), tape.length(), cards.size(),
            orders.size(), ran.size()};
        return in(what, 0, 9) ? all[what] : BAD;
    }
}

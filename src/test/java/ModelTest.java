import java.util.ArrayList;
import java.util.List;
import java.util.Random;

/** Random runs of calls, each answered by the class and by Model: the answers must be the same, and nothing is thrown. */
public final class ModelTest {
    private static final Due DUE = new Due("ModelTest");
    private static final int CALLS = 512;
    private static int differing = 0;

    private final Random random;
    private final PostTurns x = new PostTurns();
    private final Model model = new Model();
    private final List<String> said = new ArrayList<>();

    private ModelTest(long seed) {
        random = new Random(seed);
    }

    /** With a number: so many runs; with two: from that seed on. */
    public static void main(String[] args) {
        int runs = args.length > 0 ? Integer.parseInt(args[0]) : 300;
        long from = args.length > 1 ? Long.parseLong(args[1]) : 1;
        for (long seed = from; seed < from + runs && differing < 3; seed++) new ModelTest(seed).play(seed);
        for (long seed = from; seed < from + runs && differing < 3; seed++) new ModelTest(seed << 32).crowd(seed);
        for (long seed = from; seed < from + runs / 15 && differing < 3; seed++) new ModelTest(-seed).brim(seed);
        faults(20000);
        DUE.end();
    }

    private static void faults(int texts) {
        Random random = new Random(7);
        for (int i = 0; i < texts; i++) {
            StringBuilder text = new StringBuilder(expression(random, 3));
            for (int k = random.nextInt(4); k > 0 && text.length() > 0; k--) {
                int at = random.nextInt(text.length());
                String signs = "tpfhcodvnzw0123456789()!-+*/%<=>&|?;x ";
                char c = signs.charAt(random.nextInt(signs.length()));
                if (random.nextBoolean()) text.setCharAt(at, c);
                else if (random.nextBoolean()) text.insert(at, c);
                else text.deleteCharAt(at);
            }
            if (text.length() > 160) text.setLength(160);
            PostTurns x = new PostTurns();
            x.game(0);
            int fault = Model.fault(text.toString());
            DUE.is("rule " + text, Due.rule(x, 0, 0, text.toString()), fault < 0 ? 0 : -100 - fault);
        }
    }

    private int upTo(int n) {
        return n <= 0 ? 0 : random.nextInt(n);
    }

    /** Mostly 0 .. n - 1, now and then a little or far outside. */
    private int about(int n) {
        int kind = random.nextInt(40);
        if (kind == 0) return -1;
        if (kind == 1) return n;
        if (kind == 2) return random.nextInt();
        if (kind == 3) return random.nextInt(2 * n + 6) - 3;
        return upTo(n);
    }

    private void play(long seed) {
        try {
            begin();
            while (said.size() < CALLS && differing < 3) step();
            for (int i = 0; i < 200 && differing < 3; i++) look();
        } catch (RuntimeException e) {
            differing++;
            e.printStackTrace(System.out);
            DUE.holds("seed " + seed + " threw behind " + said.get(said.size() - 1), false);
        }
        DUE.holds("seed " + seed, differing == 0);
    }

    /** Many pieces in few cells: many go, and by rules made between AGAINS others go, in other cells. */
    private void crowd(long seed) {
        int holders = 2 + upTo(2), pieces = 8 + upTo(6);
        both("game(" + seed + ")", x.game((int) seed), model.game((int) seed));
        for (int h = 0; h < holders; h++) both("holder(0, 9)", x.holder(0, 9), model.holder(0, 9));
        for (int p = 0; p < pieces; p++) {
            int h = upTo(holders), c = 6 * upTo(4) + upTo(4), force = upTo(2) == 0 ? 1 : 1 + upTo(9);
            both("piece(" + h + ", " + c + ", " + force + ")", x.piece(h, c, force), model.piece(h, c, force));
        }
        for (int turns = 3 + upTo(4); turns > 0 && differing < 3; turns--) {
            for (int h = 0; h < holders; h++) card(h, upTo(9) == 0 ? upTo(10) : 0);
            for (int p = 0; p < model.count(2); p++) crowdOrders(p);
            both("days(7)", x.days(7), model.days(7));
            both("done(0)", x.done(0), model.done(0));
        }
        for (int k = 0; k < 5 && differing < 3; k++) {
            crowdRule();
            int t = upTo(3) == 0 ? upTo(3) : 0;
            both("again(0, " + t + ")", x.again(0, t), model.again(0, t));
            lookAtAll();
        }
        DUE.holds("crowd of " + seed, differing == 0);
    }

    /** Some MOVES and HELPS, now and then with an if or standing: one to where the piece may be only by AGAIN is the last. */
    private void crowdOrders(int p) {
        int card = cardFor(Math.max(0, model.ofPiece(p, 0)));
        for (int k = upTo(4); k >= 0; k--) {
            int what = upTo(6) == 0 ? 2 : 1, at = what == 2 ? near(p) : k == 0 ? 6 * upTo(4) + upTo(4) : step(p);
            both("order(" + card + ", " + p + ", " + what + ", " + at + ")", x.order(card, p, what, at),
                model.order(card, p, what, at));
            if (upTo(7) == 0) kind();
        }
    }

    /** A rule by which some pieces may not go, some goals may not be, or others are first. */
    private void crowdRule() {
        String[] texts = {"p-" + upTo(12), "p%" + (2 + upTo(3)), "!(d=" + (6 * upTo(4) + upTo(4)) + ")", "t-" + upTo(4), "z", "1", "h",
            "o-" + upTo(3), "-p", "f<" + (1 + upTo(5))};
        String text = texts[upTo(texts.length)];
        for (int i = 0; i < text.length(); i++) both("feed(1, " + text.charAt(i) + ")", x.feed(1, text.charAt(i)),
            model.feed(1, text.charAt(i)));
        int use = upTo(4) == 0 ? upTo(5) : 0, from = upTo(2) == 0 ? upTo(3) : 0;
        both("rule(" + use + ", " + from + ")", x.rule(use, from), model.rule(use, from));
    }

    /** All that a turn changes, of all pieces and holders. */
    private void lookAtAll() {
        for (int p = 0; p < model.count(2); p++) {
            for (int w = 1; w < 6; w++) both("ofPiece(" + p + ", " + w + ")", x.ofPiece(p, w), model.ofPiece(p, w));
            for (int t = 0; t < 3; t++) both("was(" + p + ", " + t + ")", x.was(p, t), model.was(p, t));
        }
        for (int h = 0; h < model.count(1); h++) {
            for (int w = 1; w < 8; w++) both("ofHolder(" + h + ", " + w + ")", x.ofHolder(h, w), model.ofHolder(h, w));
        }
    }

    /** One game with all the holders, pieces, rules, cards and orders that there is room for, and turns done in it. */
    private void brim(long seed) {
        both("game(5)", x.game(5), model.game(5));
        for (int h = 0; h < 13; h++) both("holder(0, " + h + ")", x.holder(0, h), model.holder(0, h));
        for (int p = 0; p < 41; p++) {
            int c = (p * 5 + (int) seed) % 48, force = 1 + upTo(4);
            both("piece(" + p % 12 + ", " + c + ", " + force + ")", x.piece(p % 12, c, force), model.piece(p % 12, c, force));
        }
        for (int r = 0; r < 21; r++) {
            String text = fixed();
            int what = r % 5, from = upTo(30);
            Due.feed(x, text);
            for (int i = 0; i < text.length(); i++) model.feed(1, text.charAt(i));
            both("rule(" + what + ", " + from + ") of " + text, x.rule(what, from), model.rule(what, from));
        }
        for (int k = 0; k < 2000 && model.count(8) < 300 && differing < 3; k++) {
            if (upTo(4) == 0) order();
            else manyOrders();
            if (upTo(6) == 0 && model.count(7) < 120) week();
        }
        while (model.count(7) < 150 && differing < 3) card(upTo(12), upTo(10));
        DUE.is("orders of " + seed, x.count(8), 300);
        card(0, 0);
        order();
        manyOrders();
        for (int k = 0; k < 60 && differing < 3; k++) {
            week();
            for (int p = 39; p < 41; p++) both("orderOf(" + p + ")", x.orderOf(p), model.orderOf(p));
            both("check(0)", x.check(0), model.check(0));
            if (k % 8 == 0) ways();
            if (k % 8 == 0) again();
        }
        DUE.is("turns of " + seed, x.ofGame(0, 0), 30);
        DUE.holds("brim of " + seed, differing == 0);
    }

    private void card(int holder, int way) {
        both("card(" + holder + ", " + holder + ", " + way + ")", x.card(holder, holder, way), model.card(holder, holder, way));
    }

    /** Orders read for the pieces of one holder, on a card of today. */
    private void manyOrders() {
        int holder = upTo(12);
        card(holder, upTo(3));
        int card = cardFor(holder), fours = 1 + upTo(4);
        both("row(0, 0, " + 4 * fours + ")", x.row(0, 0, 4 * fours), model.row(0, 0, 4 * fours));
        for (int k = 0; k < fours; k++) {
            int p = holder + 12 * upTo(4), what = 1 + upTo(2);
            put(0, 4 * k, p);
            put(0, 4 * k + 1, what);
            put(0, 4 * k + 2, what == 1 ? step(Math.min(p, 39)) : near(Math.min(p, 39)));
        }
        both("read(" + card + ", 0, 0, " + fours + ")", x.read(card, 0, 0, fours), model.read(card, 0, 0, fours));
    }

    private void both(String call, long got, long want) {
        said.add(call + " = " + want);
        DUE.is(call, got, want);
        if (got == want) return;
        differing++;
        System.out.println("the run: " + said);
    }

    private void begin() {
        int games = 1 + upTo(3), holders = 2 + upTo(6), pieces = 4 + upTo(24);
        for (int g = 0; g < games; g++) {
            int seed = random.nextInt();
            both("game(" + seed + ")", x.game(seed), model.game(seed));
            if (upTo(3) == 0) days();
        }
        for (int h = 0; h < holders; h++) holder();
        for (int c = upTo(12); c > 0; c--) cell();
        for (int p = 0; p < pieces; p++) piece();
        for (int r = upTo(6); r > 0; r--) rule();
    }

    private int games() {
        return Math.max(1, model.count(0));
    }

    private int someHolder() {
        return about(Math.max(1, model.count(1)));
    }

    private int somePiece() {
        return about(Math.max(1, model.count(2)));
    }

    private void days() {
        int n = upTo(3) == 0 ? about(61) : upTo(4) == 0 ? 7 : 1 + upTo(3);
        both("days(" + n + ")", x.days(n), model.days(n));
    }

    private void holder() {
        int g = about(games()), coins = upTo(4) == 0 ? about(10000) : upTo(50);
        both("holder(" + g + ", " + coins + ")", x.holder(g, coins), model.holder(g, coins));
    }

    private void cell() {
        int c = 100 * upTo(games()) + about(48), what = about(2), v = what == 0 ? about(10) : about(2);
        both("cell(" + c + ", " + what + ", " + v + ")", x.cell(c, what, v), model.cell(c, what, v));
    }

    private void piece() {
        int h = someHolder(), force = about(4) + 1;
        int c = upTo(5) == 0 ? about(48) : 6 * upTo(4) + upTo(4);
        both("piece(" + h + ", " + c + ", " + force + ")", x.piece(h, c, force), model.piece(h, c, force));
    }

    private void rule() {
        String text = upTo(5) == 0 ? fixed() : expression(random, 2);
        if (upTo(12) == 0) text = text.substring(0, upTo(text.length()));
        for (int i = 0; i < text.length() && i < 150; i += 4) {
            int n = Math.min(4, text.length() - i), v = random.nextInt();
            for (int k = 0; k < n; k++) v = v & ~(255 << 8 * k) | text.charAt(i + k) << 8 * k;
            both("feed(" + n + ", " + v + ")", x.feed(n, v), model.feed(n, v));
        }
        int what = 10 * upTo(games()) + about(5), from = upTo(3) == 0 ? about(30) : upTo(3);
        both("rule(" + what + ", " + from + ")", x.rule(what, from), model.rule(what, from));
    }

    private String fixed() {
        String[] texts = {"z", "p", "-p", "1", "0", "o<2", "t%2", "n*n", "w/4", "f;0", "h=1?0;1", "!(o=1&v=1)", "z%3", "d-c", "p%2"};
        return texts[upTo(texts.length)];
    }

    private static String expression(Random random, int depth) {
        StringBuilder text = new StringBuilder(operands(random, depth));
        if (random.nextInt(4) == 0) text.append('?').append(operands(random, depth));
        for (int k = random.nextInt(6); k > 3; k--) {
            text.append(';').append(operands(random, depth));
            if (random.nextInt(2) == 0) text.append('?').append(operands(random, depth));
        }
        return text.toString();
    }

    private static String operands(Random random, int depth) {
        String signs = "+-*/%&|+-*";
        StringBuilder text = new StringBuilder(operand(random, depth));
        for (int k = random.nextInt(4); k > 1; k--) {
            text.append(signs.charAt(random.nextInt(signs.length()))).append(operand(random, depth));
        }
        if (random.nextInt(4) == 0) text.append("<=>".charAt(random.nextInt(3))).append(operand(random, depth));
        return text.toString();
    }

    private static String operand(Random random, int depth) {
        int kind = random.nextInt(8);
        if (kind == 0) return "" + random.nextInt(10000);
        if (kind == 1) return "" + random.nextInt(4);
        if (kind == 2) return "!" + operand(random, depth);
        if (kind == 3) return "-" + operand(random, depth);
        if (kind == 4 && depth > 0) return "(" + operands(random, depth - 1) + ")";
        return "" + "tpfhcodvnzw".charAt(random.nextInt(11));
    }

    private void step() {
        int kind = upTo(100);
        if (kind < 3) days();
        else if (kind < 13) week();
        else if (kind < 15) again();
        else if (kind < 17) rule();
        else if (kind < 52) order();
        else if (kind < 56) read();
        else if (kind < 62) ways();
        else if (kind < 63) drop();
        else if (kind < 67) shelf();
        else if (kind < 69) act();
        else if (kind < 70) early();
        else look();
    }

    private void week() {
        int n = 7 - (upTo(3) == 0 ? 1 : 0);
        both("days(" + n + ")", x.days(n), model.days(n));
        for (int g = 0; g < games(); g++) both("done(" + g + ")", x.done(g), model.done(g));
        for (int k = 0; k < 4; k++) look();
    }

    private void again() {
        int g = about(games()), t = upTo(2) == 0 ? about(30) : upTo(Math.max(1, model.ofGame(0, 0)));
        both("again(" + g + ", " + t + ")", x.again(g, t), model.again(g, t));
        for (int k = 0; k < 4; k++) look();
    }

    private void early() {
        if (upTo(2) == 0) cell();
        else if (upTo(2) == 0) piece();
        else holder();
        int h = someHolder(), g = about(games());
        both("runs(" + h + ", " + g + ")", x.runs(h, g), model.runs(h, g));
    }

    private void drop() {
        int h = someHolder(), p = upTo(3) == 0 ? -1 : someHolder();
        both("drops(" + h + ", " + p + ")", x.drops(h, p), model.drops(h, p));
    }

    /** A card, mostly for a holder that has pieces, and orders on it. */
    private void order() {
        int p = somePiece();
        int of = Math.max(0, model.ofPiece(p, 0)), proxy = model.ofHolder(of, 3);
        int holder = upTo(8) == 0 ? someHolder() : proxy >= 0 && upTo(2) == 0 ? proxy : of;
        if (upTo(3) == 0 || model.count(7) == 0) {
            int way = upTo(3) == 0 ? about(10) : 0;
            both("card(" + holder + ", " + of + ", " + way + ")", x.card(holder, of, way), model.card(holder, of, way));
        }
        int card = upTo(12) == 0 ? about(model.count(7) + 1) : cardFor(of);
        for (int k = upTo(3); k >= 0; k--) {
            int what = upTo(12) == 0 ? about(3) : new int[] {1, 1, 1, 2, 2, 0}[upTo(6)];
            int at = what == 1 ? step(p) : what == 2 ? near(p) : random.nextInt();
            both("order(" + card + ", " + p + ", " + what + ", " + at + ")", x.order(card, p, what, at),
                model.order(card, p, what, at));
            if (upTo(2) == 0) kind();
            int[] mates = piecesOf(of);
            if (mates.length > 0) p = mates[upTo(mates.length)];
        }
    }

    private int cardFor(int of) {
        for (int c = model.count(7) - 1; c >= 0; c--) {
            if (model.ofCard(c, 1) == of) return c;
        }
        return 0;
    }

    private int[] piecesOf(int holder) {
        int[] found = new int[40];
        int n = 0;
        for (int p = 0; p < model.count(2); p++) {
            if (model.ofPiece(p, 0) == holder && model.ofPiece(p, 3) == 0) found[n++] = p;
        }
        return java.util.Arrays.copyOf(found, n);
    }

    private int step(int p) {
        int c = Math.max(0, model.ofPiece(p, 1));
        int[] by = {6, -6, 1, -1};
        return upTo(15) == 0 ? about(48) : c + by[upTo(4)];
    }

    private int near(int p) {
        if (upTo(6) == 0) return somePiece();
        int c = Math.max(0, model.ofPiece(p, 1));
        for (int tries = 0; tries < 12; tries++) {
            int q = upTo(Math.max(1, model.count(2)));
            int d = model.ofPiece(q, 1);
            int far = Math.abs(c / 6 - d / 6) + Math.abs(c % 6 - d % 6);
            if (q != p && far <= 2) return q;
        }
        return somePiece();
    }

    private void kind() {
        int kind = upTo(8) == 0 ? about(7) : 2 + upTo(3);
        int a = kind == 2 ? about(48) : kind == 3 ? about(30) : upTo(20) == 0 ? about(300) : model.count(8) - 4 + upTo(6);
        int b = about(2);
        both("turn(" + kind + ", " + a + ", " + b + ")", x.turn(kind, a, b), model.turn(kind, a, b));
        if (kind != 4 || upTo(4) == 0) return;
        // A partner that names it.
        int p = somePiece(), of = Math.max(0, model.ofPiece(p, 0)), card = cardFor(of), at = step(p);
        both("order(" + card + ", " + p + ", 1, " + at + ")", x.order(card, p, 1, at), model.order(card, p, 1, at));
        int other = model.count(8) - 2;
        both("turn(4, " + other + ", 0)", x.turn(4, other, 0), model.turn(4, other, 0));
    }

    private void put(int shelf, int i, long v) {
        both("put(" + shelf + ", " + i + ", " + v + ")", x.put(shelf, i, v), model.put(shelf, i, v));
    }

    private void read() {
        int shelf = upTo(6), fours = 1 + upTo(3), length = 4 * fours - upTo(2) * upTo(3);
        int p = upTo(Math.max(1, model.count(2))), of = Math.max(0, model.ofPiece(p, 0)), card = cardFor(of);
        if (upTo(4) > 0) both("row(" + shelf + ", 0, " + length + ")", x.row(shelf, 0, length), model.row(shelf, 0, length));
        for (int k = 0; k < fours; k++) {
            int what = about(3);
            put(shelf, 4 * k, p);
            put(shelf, 4 * k + 1, what);
            put(shelf, 4 * k + 2, what == 1 ? step(p) : what == 2 ? near(p) : random.nextInt());
            if (upTo(8) == 0) put(shelf, 4 * k + 3, upTo(3));
        }
        int i = upTo(4) == 0 ? about(8) : 0, n = about(15) + 1;
        both("read(" + card + ", " + shelf + ", " + i + ", " + n + ")", x.read(card, shelf, i, n), model.read(card, shelf, i, n));
    }

    private void ways() {
        int told = 1 + upTo(3), first = somePiece();
        int[] mates = piecesOf(Math.max(0, model.ofPiece(first, 0)));
        for (int k = 0; k < told; k++) {
            int p = mates.length > 0 && upTo(9) > 0 ? mates[upTo(mates.length)] : first;
            for (int w = upTo(5); w > 0; w--) {
                int what = upTo(9) == 0 ? about(3) : 1 + upTo(2), at = what == 1 ? step(p) : what == 2 ? near(p) : upTo(9);
                both("way(" + p + ", " + what + ", " + at + ")", x.way(p, what, at), model.way(p, what, at));
            }
        }
        for (int k = 0; k < 3; k++) {
            int row = upTo(9) == 0 ? random.nextInt() : upTo(4) * 100 + upTo(4) * 10 + upTo(4);
            row = upTo(3) == 0 ? row % 100 : row;
            both("judge(" + row + ")", x.judge(row), model.judge(row));
        }
        if (upTo(3) == 0) return;
        both("best()", x.best(), model.best());
        for (int i = -1; i < 4; i++) both("bestWay(" + i + ")", x.bestWay(i), model.bestWay(i));
    }

    private void shelf() {
        int shelf = about(6), other = about(6), sort = about(5), n = about(61), o = about(model.count(8) + 1) - 1;
        long v = random.nextLong() >> upTo(64);
        if (upTo(2) == 0) both("row(" + shelf + ", " + sort + ", " + n + ")", x.row(shelf, sort, n), model.row(shelf, sort, n));
        if (upTo(4) == 0) both("keep(" + other + ", " + o + ")", x.keep(other, o), model.keep(other, o));
        int i = about(8), j = about(8), k = about(6);
        put(shelf, i, v);
        put(other, j, v);
        both("shift(" + shelf + ", " + i + ", " + other + ", " + j + ", " + k + ")", x.shift(shelf, i, other, j, k),
            model.shift(shelf, i, other, j, k));
        both("element(" + other + ", " + i + ")", x.element(other, i), model.element(other, i));
        both("element(" + shelf + ", " + j + ")", x.element(shelf, j), model.element(shelf, j));
        both("taken(" + other + ", " + sort + ")", x.taken(other, sort), model.taken(other, sort));
    }

    private void act() {
        int o = about(model.count(8) + 1), act = about(4), a = random.nextInt() >> upTo(32);
        both("act(" + o + ", " + act + ", " + a + ")", x.act(o, act, a), model.act(o, act, a));
        for (int i = 0; i < 10; i++) both("trace(" + i + ")", x.trace(i), model.trace(i));
    }

    private void look() {
        int p = somePiece(), h = someHolder(), g = about(games()), t = upTo(3) == 0 ? about(31) : upTo(3);
        switch (upTo(15)) {
            case 0:
            case 1:
                int w = about(6);
                both("ofPiece(" + p + ", " + w + ")", x.ofPiece(p, w), model.ofPiece(p, w));
                break;
            case 2:
            case 3:
                w = about(8);
                both("ofHolder(" + h + ", " + w + ")", x.ofHolder(h, w), model.ofHolder(h, w));
                break;
            case 4:
                w = about(4);
                both("ofGame(" + g + ", " + w + ")", x.ofGame(g, w), model.ofGame(g, w));
                break;
            case 5:
                int what = 10 * upTo(games()) + about(5), k = about(1000);
                both("inForce(" + what + ", " + t + ", " + k + ")", x.inForce(what, t, k), model.inForce(what, t, k));
                break;
            case 6:
                int use = upTo(8) == 0 ? about(5) : 2 + 2 * upTo(2), of = use == 2 ? p : h;
                both("says(" + use + ", " + of + ")", x.says(use, of), model.says(use, of));
                both("drawn(" + p + ", " + t + ")", x.drawn(p, t), model.drawn(p, t));
                break;
            case 7:
                int c = about(model.count(7) + 1);
                w = about(6);
                both("ofCard(" + c + ", " + w + ")", x.ofCard(c, w), model.ofCard(c, w));
                break;
            case 8:
                int o = about(model.count(8) + 1);
                w = about(7);
                both("ofOrder(" + o + ", " + w + ")", x.ofOrder(o, w), model.ofOrder(o, w));
                break;
            case 9:
            case 10:
                both("orderOf(" + p + ")", x.orderOf(p), model.orderOf(p));
                break;
            case 11:
                both("was(" + p + ", " + t + ")", x.was(p, t), model.was(p, t));
                break;
            case 12:
                int at = about(48);
                both("sees(" + h + ", " + at + ")", x.sees(h, at), model.sees(h, at));
                break;
            case 13:
                int b = someHolder();
                both("alike(" + h + ", " + b + ")", x.alike(h, b), model.alike(h, b));
                both("bar(" + g + ")", x.bar(g), model.bar(g));
                break;
            default:
                w = about(10);
                both("count(" + w + ")", x.count(w), model.count(w));
                both("check(" + g + ")", x.check(g), model.check(g));
                int coins = upTo(3) == 0 ? about(100000) : upTo(90);
                both("pay(" + h + ", " + coins + ")", x.pay(h, coins), model.pay(h, coins));
        }
    }
}

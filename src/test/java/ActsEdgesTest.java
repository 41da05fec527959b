/** The edges of promises 35 to 44, sentence by sentence: acts and their trace, shelves, check, counts. */
public final class ActsEdgesTest {
    private static final Due DUE = new Due("ActsEdgesTest");
    private static final int MIN = Integer.MIN_VALUE, MAX = Integer.MAX_VALUE;

    public static void main(String[] args) {
        actRefusals();
        actsWrap();
        bitsOfHides();
        anActOfTheLastOrder();
        asItIsNow();
        traceRefusals();
        keepRefusals();
        sixShelves();
        rowRefusals();
        aNewRowIsEmpty();
        putRefusals();
        lowestBits();
        elementRefusals();
        shiftRefusals();
        shiftPlaces();
        asTheyAllWereBefore();
        takenRefusals();
        checkEdges();
        countRefusals();
        countsOfAll();
        DUE.end();
    }

    /** Orders for piece 1 with what 2: 0 ORDER, 1 IF, 2 STANDING, 3 DEAL, 4 WRONG (of no piece, what 0), 5 PROXY. */
    private static PostTurns kinds() {
        PostTurns x = new PostTurns();
        x.game(0);
        x.holder(0, 0);
        x.holder(0, 0);
        x.piece(0, 0, 1);
        x.piece(0, 1, 1);
        x.card(0, 0, 0);
        for (int kind = 1; kind <= 4; kind++) {
            x.order(0, 1, 2, 0);
            if (kind > 1) DUE.is("20: becomes", x.turn(kind, 9, 1), kind);
        }
        x.row(0, 0, 1);
        x.read(0, 0, 0, 1);
        x.drops(0, 1);
        x.card(1, 0, 0);
        x.order(1, 1, 2, 0);
        DUE.is("20: becomes", x.turn(3, 9, 0), 5);
        x.keep(0, -1);
        return x;
    }

    /** Promise 35: "0, and no TRACE then: no such ORDER, ACT". */
    private static void actRefusals() {
        PostTurns x = kinds();
        int[] none = {-1, 6, 299, 300, MIN, MAX};
        for (int order : none) {
            DUE.is("35: an act", x.act(1, 3, 5) != 0 ? x.count(9) : 0, 8);
            DUE.is("35: order " + order, x.act(order, 0, 5), 0);
            DUE.is("44: none ran", x.count(9), 0);
            DUE.is("36: no trace", x.trace(0), -1);
        }
        int[] noAct = {-1, 4, 5, MIN, MAX};
        for (int act : noAct) {
            x.act(1, 0, 5);
            DUE.is("44: two ran", x.count(9), 2);
            DUE.is("35: act " + act, x.act(1, act, 5), 0);
            DUE.is("44: none ran", x.count(9), 0);
            DUE.is("36: no trace", x.trace(0), -1);
        }
        for (int act = 0; act <= 3; act++) {
            x.act(0, act, 5);
            DUE.is("35: act " + act + " of order 0 ran", x.count(9), new int[] {2, 3, 1, 5}[act]);
        }
    }

    /** "ACTS with x (an int that wraps)". */
    private static void actsWrap() {
        PostTurns x = kinds();
        int[] ends = {MIN, MIN + 1, -1, 0, 1, MAX - 1, MAX, 0x40000000, 0x55555555};
        for (int v : ends) {
            for (int n = 0; n < 6; n++) {
                int p = n == 4 ? -1 : 1;
                int means = v + n + p, low = v + 1 + n + p;
                if (n == 3) means *= 3;
                DUE.is("35: means of " + n, x.act(n, 0, v), means);
                int clashes = means * 2;
                if (n == 2 || n == 5) clashes--;
                DUE.is("35: clashes of " + n, x.act(n, 1, v), n == 5 ? -clashes : clashes);
                int two = 2 + n + p;
                int hides = n == 1 ? (v ^ n) + two : n == 5 ? v ^ n ^ 9 : v ^ n;
                DUE.is("35: hides of " + n, x.act(n, 2, v), hides);
                int one = n == 1 ? (1 ^ n) + two : n == 5 ? 1 ^ n ^ 9 : 1 ^ n;
                int last = n == 2 ? low * 2 - 1 - one : n == 5 ? -(low * 2 - 1) - one : clashes - one;
                DUE.is("35: ends of " + n, x.act(n, 3, v), last);
            }
        }
    }

    /** ^ takes bits away that both have, and puts those that one has. */
    private static void bitsOfHides() {
        PostTurns x = kinds();
        for (int v = 0; v < 16; v++) DUE.is("35: hides " + v + " of PROXY 5", x.act(5, 2, v), v ^ 12);
        for (int v = 0; v < 16; v++) DUE.is("35: hides " + v + " of DEAL 3", x.act(3, 2, v), v ^ 3);
        DUE.is("35: all bits", x.act(5, 2, -1), -13);
    }

    /** "n its number, p the PIECE": of the greatest number and piece, of order 0 and piece 0. */
    private static void anActOfTheLastOrder() {
        PostTurns x = new PostTurns();
        x.game(0);
        x.holder(0, 0);
        for (int p = 0; p < 40; p++) x.piece(0, p, 1);
        x.card(0, 0, 0);
        x.order(0, 0, 0, 0);
        x.row(0, 0, 60);
        for (int i = 0; i < 19; i++) x.read(0, 0, 0, 15);
        for (int o = 286; o < 300; o++) x.order(0, 39, 0, 0);
        DUE.is("35: order 0 of piece 0", x.act(0, 0, 7), 7);
        DUE.is("35: order 299 of piece 39", x.act(299, 0, 7), 7 + 299 + 39);
        DUE.is("35: its hides", x.act(299, 2, 0), 299);
        DUE.is("35: no order 300", x.act(300, 0, 7), 0);
    }

    /** An ORDER acts by the KIND that it has now. */
    private static void asItIsNow() {
        PostTurns x = kinds();
        x.card(1, 1, 0);
        x.piece(1, 9, 1);
        x.order(2, 2, 0, 0);
        DUE.is("35: of kind 1", x.act(6, 1, 5), 26);
        DUE.is("36: its first body", x.trace(0), 10);
        x.turn(3, 9, 0);
        DUE.is("36: the trace stays", x.trace(0), 10);
        DUE.is("35: of kind 3", x.act(6, 1, 5), 25);
        DUE.is("36: its first body", x.trace(0), 40);
    }

    /** Promise 36: "THE TRACE's i-th body. BAD". */
    private static void traceRefusals() {
        PostTurns x = kinds();
        int[] none = {-1, 0, 1, 23, 24, MIN, MAX};
        for (int i : none) DUE.is("36: no act yet: " + i, x.trace(i), -1);
        x.act(1, 3, 5);
        int[] bodies = {2, 10, 20, 1, 30, 11, 20, 1};
        for (int i = 0; i < 8; i++) DUE.is("36: as they began", x.trace(i), bodies[i]);
        int[] behind = {-1, 8, 9, 23, 24, 25, MIN, MAX};
        for (int i : behind) DUE.is("36: i " + i, x.trace(i), -1);
        x.act(1, 2, 5);
        DUE.is("36: of the latest act", x.trace(0), 30);
        DUE.is("36: the last of four", x.trace(3), 1);
        DUE.is("36: none of the act ahead of it", x.trace(4), -1);
    }

    /** Promise 37: "A SHELF holds nothing (order -1), or an ORDER: 1. BAD". */
    private static void keepRefusals() {
        PostTurns x = kinds();
        int[] noShelf = {-1, 6, 7, MIN, MAX};
        for (int shelf : noShelf) {
            DUE.is("37: shelf " + shelf, x.keep(shelf, 0), -1);
            DUE.is("37: shelf " + shelf, x.keep(shelf, -1), -1);
        }
        x.row(1, 2, 3);
        x.put(1, 2, 77);
        int[] none = {-2, 6, 299, 300, MIN, MAX};
        for (int order : none) DUE.is("37: order " + order, x.keep(1, order), -1);
        DUE.is("40: the row stays", x.element(1, 2), 77);
        DUE.is("37: the first order", x.keep(1, 0), 1);
        DUE.is("42: it", x.taken(1, 0), 1);
        DUE.is("37: the last order", x.keep(1, 5), 1);
        DUE.is("42: it", x.taken(1, 0), 5);
        DUE.is("37: nothing", x.keep(1, -1), 1);
        DUE.is("42: nothing", x.taken(1, 0), -11);
        DUE.is("37: nothing on nothing", x.keep(1, -1), 1);
        DUE.is("40: no row", x.element(1, 2), Long.MIN_VALUE);
    }

    /** "SHELVES 0 .. 5 each hold nothing (at first), an ORDER, or a ROW". */
    private static void sixShelves() {
        PostTurns x = kinds();
        for (int shelf = 0; shelf < 6; shelf++) {
            DUE.is("39: nothing at first", x.put(shelf, 0, 1), -11);
            DUE.is("38: a row", x.row(shelf, 3, shelf + 1), 1);
            DUE.is("39: its last", x.put(shelf, shelf, 100 + shelf), 1);
            DUE.is("39: no more", x.put(shelf, shelf + 1, 1), -13);
        }
        for (int shelf = 0; shelf < 6; shelf++) DUE.is("40: its own", x.element(shelf, shelf), 100 + shelf);
        for (int shelf = 0; shelf < 6; shelf++) x.keep(shelf, shelf);
        int[] kind = {1, 2, 3, 4, 6, 5};
        for (int shelf = 0; shelf < 6; shelf++) DUE.is("42: its own", x.taken(shelf, 0), kind[shelf]);
    }

    /** Promise 38: "BAD (sort, n above 60); -14": sorts 0 .. 4, of 0 .. 60 elements. */
    private static void rowRefusals() {
        PostTurns x = kinds();
        x.keep(0, 2);
        int[] noShelf = {-1, 6, MIN, MAX};
        for (int shelf : noShelf) DUE.is("38: shelf " + shelf, x.row(shelf, 0, 1), -1);
        int[] noSort = {-1, 5, 6, MIN, MAX};
        for (int sort : noSort) {
            DUE.is("38: sort " + sort, x.row(0, sort, 1), -1);
            DUE.is("38: BAD ahead of -14", x.row(0, sort, -1), -1);
        }
        int[] tooMany = {61, 62, MAX};
        for (int n : tooMany) DUE.is("38: n " + n, x.row(0, 0, n), -1);
        int[] below = {-1, -2, MIN};
        for (int n : below) {
            DUE.is("38: n " + n, x.row(0, 0, n), -14);
            DUE.is("38: BAD ahead of -14", x.row(6, 0, n), -1);
        }
        DUE.is("42: the order stays", x.taken(0, 3), 3);
        for (int sort = 0; sort <= 4; sort++) {
            DUE.is("38: the most", x.row(0, sort, 60), 1);
            DUE.is("39: the last place", x.put(0, 59, 1), 1);
            DUE.is("39: no place", x.put(0, 60, 1), -13);
            DUE.is("38: the least", x.row(0, sort, 0), 1);
            DUE.is("39: no place", x.put(0, 0, 1), -13);
            DUE.is("40: no place", x.element(0, 0), Long.MIN_VALUE);
        }
    }

    /** "of 0 .. 60 elements, 0 at first (false)", where another row was, too. */
    private static void aNewRowIsEmpty() {
        PostTurns x = new PostTurns();
        for (int sort = 0; sort <= 4; sort++) {
            for (int n : new int[] {1, 2, 60}) {
                x.row(3, sort, n);
                for (int i = 0; i < n; i++) DUE.is("40: 0 at first", x.element(3, i), 0);
                for (int i = 0; i < n; i++) x.put(3, i, -1);
                x.row(3, sort, n);
                for (int i = 0; i < n; i++) DUE.is("40: 0 at first again", x.element(3, i), 0);
            }
        }
        x.row(3, 2, 9);
        x.put(3, 8, 5);
        x.row(3, 2, 3);
        x.row(3, 2, 9);
        DUE.is("40: 0 behind a shorter row", x.element(3, 8), 0);
        x.put(3, 0, 5);
        x.keep(3, -1);
        x.row(3, 2, 9);
        DUE.is("40: 0 behind nothing", x.element(3, 0), 0);
    }

    /** Promise 39: "1. BAD, -11, -12, -13": the one named first. */
    private static void putRefusals() {
        PostTurns x = kinds();
        x.keep(1, 0);
        x.row(2, 3, 4);
        int[] noShelf = {-1, 6, MIN, MAX};
        for (int shelf : noShelf) DUE.is("39: shelf " + shelf, x.put(shelf, 0, 1), -1);
        int[] places = {-1, 4, 59, 60, MIN, MAX};
        for (int i : places) {
            DUE.is("39: nothing, place " + i, x.put(0, i, 1), -11);
            DUE.is("39: an order, place " + i, x.put(1, i, 1), -12);
            DUE.is("39: a row, place " + i, x.put(2, i, 1), -13);
        }
        DUE.is("39: nothing", x.put(0, 0, 1), -11);
        DUE.is("39: an order", x.put(1, 0, 1), -12);
        for (int i = 0; i < 4; i++) DUE.is("40: as it was", x.element(2, i), 0);
        for (int i = 0; i < 4; i++) DUE.is("39: place " + i, x.put(2, i, 7 * i), 1);
        for (int i = 0; i < 4; i++) DUE.is("40: place " + i, x.element(2, i), 7 * i);
    }

    /** "what is put in keeps its lowest bits (a boolean: whether it is not 0; 1 or 0)". */
    private static void lowestBits() {
        PostTurns x = new PostTurns();
        long[] worths = {0, 1, -1, 2, 127, 128, 255, 256, -128, -129, 32767, 32768, 65535, 65536, -32768, -32769, MAX, MAX + 1L, MIN,
            MIN - 1L, 1L << 32, (1L << 32) + 5, 1L << 63, Long.MAX_VALUE, Long.MIN_VALUE + 1, 0x8080808080808080L};
        for (int sort = 0; sort <= 4; sort++) {
            x.row(0, sort, 3);
            for (long v : worths) {
                long[] want = {(byte) v, (short) v, (int) v, v, v == 0 ? 0 : 1};
                DUE.is("39: put " + v, x.put(0, 1, v), 1);
                DUE.is("40: " + v + " of sort " + sort, x.element(0, 1), want[sort]);
                DUE.is("40: the place ahead", x.element(0, 0), 0);
                DUE.is("40: the place behind", x.element(0, 2), 0);
            }
        }
    }

    /** Promise 40: "Long.MIN_VALUE: BAD, -11 to -13". */
    private static void elementRefusals() {
        PostTurns x = kinds();
        x.keep(1, 0);
        x.row(2, 3, 4);
        int[] noShelf = {-1, 6, MIN, MAX};
        for (int shelf : noShelf) DUE.is("40: shelf " + shelf, x.element(shelf, 0), Long.MIN_VALUE);
        DUE.is("40: nothing", x.element(0, 0), Long.MIN_VALUE);
        DUE.is("40: an order", x.element(1, 0), Long.MIN_VALUE);
        int[] places = {-1, 4, 59, 60, MIN, MAX};
        for (int i : places) DUE.is("40: place " + i, x.element(2, i), Long.MIN_VALUE);
        x.put(2, 3, Long.MAX_VALUE);
        DUE.is("40: the last", x.element(2, 3), Long.MAX_VALUE);
    }

    /** Promise 41: "BAD, -11 (either), -12 (no ROWS, or of unlike sorts), -13 (n below 0, too)": the one named first. */
    private static void shiftRefusals() {
        PostTurns x = kinds();
        x.keep(1, 0);
        x.row(2, 3, 4);
        x.row(3, 2, 4);
        x.row(4, 3, 0);
        int[] noShelf = {-1, 6, MIN, MAX};
        for (int shelf : noShelf) {
            for (int other = 0; other < 6; other++) {
                DUE.is("41: from shelf " + shelf, x.shift(shelf, 0, other, 0, -1), -1);
                DUE.is("41: to shelf " + shelf, x.shift(other, 0, shelf, 0, -1), -1);
            }
        }
        int[][] want = {{-11, -11, -11, -11, -11}, {-11, -12, -12, -12, -12}, {-11, -12, -13, -12, -13},
            {-11, -12, -12, -13, -12}, {-11, -12, -13, -12, -13}};
        for (int from = 0; from < 5; from++) {
            for (int to = 0; to < 5; to++) {
                DUE.is("41: from " + from + " to " + to + ", n -1", x.shift(from, 0, to, 0, -1), want[from][to]);
                DUE.is("41: from " + from + " to " + to + ", place -1", x.shift(from, -1, to, 0, 0), want[from][to]);
                int none = want[from][to] == -13 ? 0 : want[from][to];
                DUE.is("41: from " + from + " to " + to + ", none", x.shift(from, 0, to, 0, 0), none);
            }
        }
        for (int sort = 0; sort <= 4; sort++) {
            for (int other = 0; other <= 4; other++) {
                x.row(0, sort, 2);
                x.row(5, other, 2);
                DUE.is("41: of sorts " + sort + " and " + other, x.shift(0, 0, 5, 0, 2), sort == other ? 2 : -12);
            }
        }
    }

    /** -13: "a place that is not there": any place of the n in either row; the end alone is one for none. */
    private static void shiftPlaces() {
        PostTurns x = new PostTurns();
        x.row(0, 3, 4);
        x.row(1, 3, 3);
        for (int i = -2; i <= 6; i++) {
            for (int j = -2; j <= 5; j++) {
                for (int n = -2; n <= 6; n++) {
                    boolean there = n >= 0 && i >= 0 && j >= 0 && i + n <= 4 && j + n <= 3;
                    DUE.is("41: " + n + " from " + i + " to " + j, x.shift(0, i, 1, j, n), there ? n : -13);
                }
            }
        }
        int[] far = {MIN, MIN + 1, MAX - 1, MAX};
        for (int a : far) {
            DUE.is("41: from " + a, x.shift(0, a, 1, 0, 1), -13);
            DUE.is("41: to " + a, x.shift(0, 0, 1, a, 1), -13);
            DUE.is("41: " + a + " elements", x.shift(0, 0, 1, 0, a), -13);
            for (int b : far) DUE.is("41: both far", x.shift(0, a, 1, a, b), -13);
        }
        for (int k = 0; k < 3; k++) DUE.is("40: none came", x.element(1, k), 0);
    }

    /** "(or the same) from j on, as they all were before". */
    private static void asTheyAllWereBefore() {
        for (int i = 0; i <= 60; i += 7) {
            for (int j = 0; j <= 60; j += 9) {
                PostTurns x = new PostTurns();
                x.row(0, 0, 60);
                for (int k = 0; k < 60; k++) x.put(0, k, k);
                int n = 60 - Math.max(i, j);
                DUE.is("41: in one row", x.shift(0, i, 0, j, n), n);
                for (int k = 0; k < 60; k++) DUE.is("40: place " + k, x.element(0, k), k >= j && k < j + n ? k - j + i : k);
            }
        }
        PostTurns x = new PostTurns();
        x.row(0, 0, 60);
        DUE.is("41: all on themselves", x.shift(0, 0, 0, 0, 60), 60);
        DUE.is("41: none at the end", x.shift(0, 60, 0, 60, 0), 0);
        DUE.is("41: one at the end", x.shift(0, 60, 0, 60, 1), -13);
    }

    /** Promise 42: "for an ORDER of KIND k (0 .. 6; as it is now), or under it: its KIND. BAD, -11, -12". */
    private static void takenRefusals() {
        PostTurns x = kinds();
        int[] noShelf = {-1, 6, MIN, MAX};
        for (int shelf : noShelf) DUE.is("42: shelf " + shelf, x.taken(shelf, 0), -1);
        int[] noKind = {-1, 7, 8, MIN, MAX};
        for (int k : noKind) DUE.is("42: kind " + k + " of nothing", x.taken(0, k), -1);
        for (int k = 0; k <= 6; k++) DUE.is("42: nothing", x.taken(0, k), -11);
        x.keep(0, 5);
        for (int k : noKind) DUE.is("42: kind " + k, x.taken(0, k), -1);
        int[] want = {5, 5, -12, 5, -12, 5, -12};
        for (int k = 0; k <= 6; k++) DUE.is("42: PROXY taken for " + k, x.taken(0, k), want[k]);
        x.row(0, 0, 4);
        for (int k = 0; k <= 6; k++) DUE.is("42: a row where an order was", x.taken(0, k), -12);
        for (int k : noKind) DUE.is("42: kind " + k + " of a row", x.taken(0, k), -1);
        x.keep(0, 2);
        int[] standing = {3, 3, -12, 3, -12, -12, -12};
        for (int k = 0; k <= 6; k++) DUE.is("42: STANDING taken for " + k, x.taken(0, k), standing[k]);
    }

    /** Promise 43: "CHECK of a GAME. BAD": "3 .. (by what was kept; of no TURN: so)". */
    private static void checkEdges() {
        PostTurns x = new PostTurns();
        int[] none = {-1, 0, 2, 3, MIN, MAX};
        for (int game : none) DUE.is("43: game " + game, x.check(game), -1);
        x.game(0);
        DUE.is("43: nothing is in it", x.check(0), 0);
        DUE.is("43: no second one", x.check(1), -1);
        x.holder(0, 9999);
        x.holder(0, 0);
        x.piece(0, 0, 1);
        x.piece(1, 47, 1);
        x.cell(1, 1, 1);
        DUE.is("43: of no turn", x.check(0), 0);
        Due.rule(x, 4, 0, "w*t");
        for (int i = 0; i < 4; i++) x.days(60);
        for (int t = 0; t < 30; t++) {
            x.done(0);
            DUE.is("43: behind turn " + t, x.check(0), 0);
            if (t == 20) x.drops(1, -1);
        }
        Due.rule(x, 4, 0, "7");
        DUE.is("43: by what was kept", x.check(0), 0);
        x.again(0, 15);
        DUE.is("43: behind again()", x.check(0), 0);
    }

    /** Promise 44: what 0 .. 9; "BAD". */
    private static void countRefusals() {
        PostTurns x = new PostTurns();
        int[] bad = {-1, 10, 11, MIN, MAX};
        for (int what : bad) DUE.is("44: what " + what, x.count(what), -1);
        for (int what = 0; what <= 9; what++) DUE.is("44: what " + what, x.count(what), 0);
    }

    /** Promise 44: each as it is when all is told that there is room for. */
    private static void countsOfAll() {
        PostTurns x = new PostTurns();
        for (int g = 0; g < 4; g++) x.game(g);
        for (int h = 0; h < 13; h++) x.holder(0, 0);
        for (int p = 0; p < 41; p++) x.piece(p % 12, p, 1);
        for (int i = 0; i < 16; i++) x.days(60);
        x.days(39);
        x.days(1);
        for (int r = 0; r < 20; r++) Due.rule(x, 0, 0, "p");
        for (int i = 0; i < 41; i++) x.feed(4, 0);
        for (int c = 0; c < 151; c++) x.card(0, 0, 0);
        x.row(0, 0, 60);
        for (int i = 0; i < 21; i++) x.read(0, 0, 0, 15);
        x.order(0, 0, 0, 0);
        x.act(0, 3, 0);
        int[] want = {3, 12, 40, 40, 999, 20, 160, 150, 300, 5};
        for (int what = 0; what <= 9; what++) DUE.is("44: count " + what, x.count(what), want[what]);
        PostTurns y = new PostTurns();
        y.game(0);
        y.game(0);
        y.holder(0, 0);
        y.holder(1, 0);
        y.piece(0, 0, 1);
        y.piece(1, 1, 1);
        y.piece(0, 2, 9);
        y.holder(0, 0);
        y.piece(2, 1, 1);
        y.card(0, 0, 0);
        y.order(0, 2, 1, 1);
        y.days(7);
        y.done(0);
        DUE.is("44: pieces", y.count(2), 4);
        DUE.is("44: pieces that are there", y.count(3), 3);
        DUE.is("44: no act", y.count(9), 0);
    }
}

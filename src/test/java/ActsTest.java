/** Promises 35 to 44: acts and their trace, shelves, check, counts. */
public final class ActsTest {
    private static final Due DUE = new Due("ActsTest");

    public static void main(String[] args) {
        acts();
        noAct();
        keeping();
        rows();
        putting();
        shifting();
        taken();
        checks();
        counts();
        DUE.end();
    }

    /** Orders of each kind: 0 ORDER, 1 IF, 2 STANDING, 3 DEAL, 4 WRONG, 5 PROXY, all for piece 1 with what 2. */
    private static PostTurns kinds() {
        PostTurns x = new PostTurns();
        x.game(0);
        x.holder(0, 0);
        x.holder(0, 0);
        x.piece(0, 0, 1);
        x.piece(0, 1, 1);
        x.card(0, 0, 0);
        x.order(0, 1, 2, 0);
        x.order(0, 1, 2, 0);
        x.turn(2, 0, 1);
        x.order(0, 1, 2, 0);
        x.turn(3, 5, 0);
        x.order(0, 1, 2, 0);
        x.turn(4, 9, 0);
        x.row(0, 0, 1);
        x.read(0, 0, 0, 1);
        x.drops(0, 1);
        x.card(1, 0, 0);
        x.order(1, 1, 2, 0);
        x.turn(3, 5, 0);
        x.keep(0, -1);
        int[] want = {1, 2, 3, 4, 6, 5};
        for (int o = 0; o < 6; o++) DUE.is("kind", x.ofOrder(o, 0), want[o]);
        return x;
    }

    private static void act(PostTurns x, int order, int act, int arg, int want, int... bodies) {
        String call = "act(" + order + ", " + act + ", " + arg + ")";
        DUE.is(call, x.act(order, act, arg), want);
        DUE.is(call + " ran", x.count(9), bodies.length);
        for (int i = 0; i < bodies.length; i++) DUE.is(call + " trace " + i, x.trace(i), bodies[i]);
        DUE.is(call + " trace behind", x.trace(bodies.length), -1);
        DUE.is("trace -1", x.trace(-1), -1);
    }

    private static void acts() {
        PostTurns x = kinds();
        int n = 0, p = 1;
        act(x, 0, 0, 10, 10 + n + p, 20, 1);
        act(x, 0, 1, 10, (10 + n + p) * 2, 10, 20, 1);
        act(x, 0, 2, 10, 10 ^ n, 11);
        act(x, 0, 3, 10, (10 + n + p) * 2 - (1 ^ n), 2, 10, 20, 1, 11);
        n = 1;
        act(x, 1, 0, 10, 10 + n + p, 20, 1);
        act(x, 1, 1, 10, (10 + n + p) * 2, 10, 20, 1);
        act(x, 1, 2, 10, (10 ^ n) + 2 + n + p, 30, 11, 20, 1);
        act(x, 1, 3, 10, (10 + n + p) * 2 - ((1 ^ n) + 2 + n + p), 2, 10, 20, 1, 30, 11, 20, 1);
        n = 2;
        act(x, 2, 0, -5, -5 + n + p, 20, 1);
        act(x, 2, 1, -5, (-5 + n + p) * 2 - 1, 40, 10, 20, 1);
        act(x, 2, 2, -5, -5 ^ n, 11);
        act(x, 2, 3, -5, (-4 + n + p) * 2 - 1 - (1 ^ n), 41, 2, 40, 10, 20, 1, 11);
        n = 3;
        act(x, 3, 0, 7, (7 + n + p) * 3, 50, 20, 1);
        act(x, 3, 1, 7, (7 + n + p) * 6, 10, 50, 20, 1);
        act(x, 3, 2, 7, 7 ^ n, 11);
        act(x, 3, 3, 7, (7 + n + p) * 6 - (1 ^ n), 2, 10, 50, 20, 1, 11);
        n = 4;
        p = -1;
        act(x, 4, 0, 7, 7 + n + p, 70, 20, 1);
        act(x, 4, 1, 7, (7 + n + p) * 2, 10, 70, 20, 1);
        act(x, 4, 2, 7, 7 ^ n, 11);
        act(x, 4, 3, 7, (7 + n + p) * 2 - (1 ^ n), 2, 10, 70, 20, 1, 11);
        n = 5;
        p = 1;
        act(x, 5, 0, 7, 7 + n + p, 20, 1);
        act(x, 5, 1, 7, -((7 + n + p) * 2 - 1), 60, 40, 10, 20, 1);
        act(x, 5, 2, 7, (7 ^ n) ^ 9, 61, 11);
        act(x, 5, 3, 7, -((8 + n + p) * 2 - 1) - ((1 ^ n) ^ 9), 41, 2, 60, 40, 10, 20, 1, 61, 11);
        int max = Integer.MAX_VALUE;
        act(x, 5, 1, max, -((max + 6) * 2 - 1), 60, 40, 10, 20, 1);
        act(x, 3, 0, max, (max + 4) * 3, 50, 20, 1);
        act(x, 2, 3, max, (Integer.MIN_VALUE + 3) * 2 - 1 - 3, 41, 2, 40, 10, 20, 1, 11);
    }

    private static void noAct() {
        PostTurns x = kinds();
        x.act(0, 0, 0);
        act(x, 6, 0, 5, 0);
        x.act(0, 0, 0);
        act(x, -1, 0, 5, 0);
        x.act(0, 0, 0);
        act(x, 0, 4, 5, 0);
        x.act(0, 0, 0);
        act(x, 0, -1, 5, 0);
    }

    private static void keeping() {
        PostTurns x = kinds();
        DUE.is("shelf 6", x.keep(6, 0), -1);
        DUE.is("shelf -1", x.keep(-1, 0), -1);
        DUE.is("no order", x.keep(0, 6), -1);
        DUE.is("order -2", x.keep(0, -2), -1);
        DUE.is("an order", x.keep(5, 3), 1);
        DUE.is("taken", x.taken(5, 0), 4);
        DUE.is("nothing", x.keep(5, -1), 1);
        DUE.is("nothing is there", x.taken(5, 0), -11);
        x.row(5, 0, 3);
        DUE.is("instead of a row", x.keep(5, 3), 1);
        DUE.is("no row", x.put(5, 0, 0), -12);
        DUE.is("a row instead", x.row(5, 0, 3), 1);
        DUE.is("a row", x.put(5, 0, 0), 1);
    }

    private static void rows() {
        PostTurns x = new PostTurns();
        DUE.is("shelf 6", x.row(6, 0, 1), -1);
        DUE.is("shelf -1", x.row(-1, 0, 1), -1);
        DUE.is("sort 5", x.row(0, 5, 1), -1);
        DUE.is("sort -1", x.row(0, -1, 1), -1);
        DUE.is("n 61", x.row(0, 0, 61), -1);
        DUE.is("n -1", x.row(0, 0, -1), -14);
        DUE.is("n min", x.row(0, 0, Integer.MIN_VALUE), -14);
        DUE.is("BAD ahead of -14", x.row(0, 5, -1), -1);
        DUE.is("nothing yet", x.put(0, 0, 0), -11);
        DUE.is("n 60", x.row(0, 3, 60), 1);
        DUE.is("the last", x.put(0, 59, 5), 1);
        DUE.is("behind it", x.put(0, 60, 5), -13);
        DUE.is("a new one", x.row(0, 3, 60), 1);
        DUE.is("0 at first", x.element(0, 59), 0);
        DUE.is("n 0", x.row(0, 2, 0), 1);
        DUE.is("no place", x.put(0, 0, 0), -13);
        DUE.is("the refused one changes nothing", x.row(0, 9, 5) + x.put(0, 0, 0), -14);
    }

    private static void putting() {
        PostTurns x = kinds();
        long v = 0x123456789abcdef0L;
        long[] want = {(byte) v, (short) v, (int) v, v, 1};
        for (int sort = 0; sort < 5; sort++) {
            x.row(1, sort, 3);
            DUE.is("put", x.put(1, 2, v), 1);
            DUE.is("sort " + sort, x.element(1, 2), want[sort]);
            DUE.is("put", x.put(1, 0, -1), 1);
            DUE.is("-1 of sort " + sort, x.element(1, 0), sort == 4 ? 1 : -1);
            DUE.is("put", x.put(1, 1, 128), 1);
            DUE.is("128 of sort " + sort, x.element(1, 1), sort == 0 ? -128 : sort == 4 ? 1 : 128);
            DUE.is("put", x.put(1, 1, 1L << 40), 1);
            DUE.is("2^40 of sort " + sort, x.element(1, 1), sort == 3 ? 1L << 40 : sort == 4 ? 1 : 0);
            x.put(1, 1, 0);
            DUE.is("0 of sort " + sort, x.element(1, 1), 0);
            DUE.is("place 3", x.put(1, 3, 0), -13);
            DUE.is("place -1", x.put(1, -1, 0), -13);
            DUE.is("place 3", x.element(1, 3), Long.MIN_VALUE);
            DUE.is("place -1", x.element(1, -1), Long.MIN_VALUE);
        }
        x.keep(2, 0);
        DUE.is("shelf 6", x.put(6, 0, 0), -1);
        DUE.is("shelf -1", x.put(-1, 0, 0), -1);
        DUE.is("nothing", x.put(3, -1, 0), -11);
        DUE.is("an order", x.put(2, -1, 0), -12);
        DUE.is("shelf 6", x.element(6, 0), Long.MIN_VALUE);
        DUE.is("shelf -1", x.element(-1, 0), Long.MIN_VALUE);
        DUE.is("nothing", x.element(3, 0), Long.MIN_VALUE);
        DUE.is("an order", x.element(2, 0), Long.MIN_VALUE);
    }

    private static void shifting() {
        PostTurns x = kinds();
        x.row(1, 2, 6);
        x.row(2, 2, 4);
        x.row(3, 1, 6);
        x.keep(4, 0);
        for (int i = 0; i < 6; i++) x.put(1, i, 10 + i);
        DUE.is("shelf 6", x.shift(6, 0, 1, 0, 1), -1);
        DUE.is("shelf -1", x.shift(1, 0, -1, 0, 1), -1);
        DUE.is("nothing", x.shift(5, 0, 1, 0, 1), -11);
        DUE.is("nothing ahead of an order", x.shift(4, 0, 5, 0, 1), -11);
        DUE.is("nothing ahead of an order", x.shift(5, 0, 4, 0, 1), -11);
        DUE.is("an order", x.shift(4, 0, 1, 0, 1), -12);
        DUE.is("an order", x.shift(1, 0, 4, 0, 1), -12);
        DUE.is("two orders", x.shift(4, 0, 4, 0, 1), -12);
        DUE.is("unlike sorts", x.shift(1, 0, 3, 0, -1), -12);
        int[][] out = {{0, 0, -1}, {-1, 0, 1}, {0, -1, 1}, {6, 0, 1}, {0, 4, 1}, {3, 0, 4}, {0, 0, 5}, {0, 1, 4}, {7, 0, 0},
            {0, 5, 0}, {-1, 0, 0}, {0, -1, 0}, {Integer.MAX_VALUE, 0, 2}, {1, 1, Integer.MAX_VALUE}, {0, 0, Integer.MIN_VALUE}};
        for (int[] o : out) DUE.is("places " + o[0] + " " + o[1] + " " + o[2], x.shift(1, o[0], 2, o[1], o[2]), -13);
        DUE.is("none of it came", x.element(2, 0), 0);
        DUE.is("none at the ends", x.shift(1, 6, 2, 4, 0), 0);
        DUE.is("four", x.shift(1, 2, 2, 0, 4), 4);
        for (int i = 0; i < 4; i++) DUE.is("came", x.element(2, i), 12 + i);
        DUE.is("upward in one row", x.shift(1, 0, 1, 1, 5), 5);
        int[] up = {10, 10, 11, 12, 13, 14};
        for (int i = 0; i < 6; i++) DUE.is("as they were", x.element(1, i), up[i]);
        DUE.is("downward in one row", x.shift(1, 2, 1, 0, 4), 4);
        int[] down = {11, 12, 13, 14, 13, 14};
        for (int i = 0; i < 6; i++) DUE.is("as they were", x.element(1, i), down[i]);
    }

    private static void taken() {
        PostTurns x = kinds();
        int[] kind = {1, 2, 3, 4, 6, 5};
        for (int o = 0; o < 6; o++) {
            x.keep(0, o);
            for (int k = 0; k < 7; k++) {
                boolean under = k == 0 || k == 1 || k == kind[o] || k == 3 && kind[o] == 5;
                DUE.is("kind " + kind[o] + " for " + k, x.taken(0, k), under ? kind[o] : -12);
            }
        }
        DUE.is("kind 7", x.taken(0, 7), -1);
        DUE.is("kind -1", x.taken(0, -1), -1);
        DUE.is("shelf 6", x.taken(6, 0), -1);
        DUE.is("shelf -1", x.taken(-1, 0), -1);
        DUE.is("nothing", x.taken(1, 0), -11);
        x.row(1, 0, 1);
        DUE.is("a row", x.taken(1, 0), -12);
        x.order(1, 1, 0, 0);
        x.keep(2, 6);
        DUE.is("as it is now", x.taken(2, 4), -12);
        x.turn(4, 0, 0);
        DUE.is("as it is now", x.taken(2, 4), 4);
    }

    private static void checks() {
        PostTurns x = new PostTurns();
        DUE.is("no game", x.check(0), -1);
        x.game(0);
        DUE.is("game -1", x.check(-1), -1);
        DUE.is("of no turn", x.check(0), 0);
        x.holder(0, 5);
        x.piece(0, 0, 1);
        x.days(14);
        x.done(0);
        DUE.is("so", x.check(0), 0);
        Due.rule(x, 4, 0, "99");
        DUE.is("by what was kept", x.check(0), 0);
        x.done(0);
        x.drops(0, -1);
        DUE.is("so", x.check(0), 0);
        x.again(0, 0);
        DUE.is("so", x.check(0), 0);
    }

    private static void counts() {
        PostTurns x = kinds();
        Due.rule(x, 0, 0, "1");
        x.feed(3, 0);
        x.days(4);
        x.act(0, 3, 0);
        int[] want = {1, 2, 2, 2, 4, 1, 3, 2, 6, 5};
        for (int what = 0; what < 10; what++) DUE.is("count " + what, x.count(what), want[what]);
        DUE.is("count 10", x.count(10), -1);
        DUE.is("count -1", x.count(-1), -1);
    }
}

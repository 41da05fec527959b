import java.util.ArrayList;
import java.util.List;
import java.util.function.Supplier;
import java.util.function.ToLongFunction;

/**
 * "What is answered so changes nothing": two objects of one run, one of which gets a call more that is refused; behind it
 * all that can be asked of both is alike. (But a faulty text empties the tape, and an act of no order leaves no trace.)
 */
public final class RefusalsTest {
    private static final Due DUE = new Due("RefusalsTest");
    private static final int BAD = -1, NOT = -2, FULL = -3, STATE = -4, VOID = -2000000000;
    private static final long NO_ELEMENT = Long.MIN_VALUE;
    private static final int[] FAR = {-1, Integer.MIN_VALUE, Integer.MAX_VALUE};

    private final Supplier<PostTurns> run;
    private final List<Long> untouched;

    private RefusalsTest(Supplier<PostTurns> run) {
        this.run = run;
        untouched = look(run.get());
    }

    public static void main(String[] args) {
        RefusalsTest told = new RefusalsTest(RefusalsTest::told);
        told.games();
        told.rules();
        told.cards();
        told.turns();
        told.best();
        told.shelves();
        told.farNumbers();
        RefusalsTest brim = new RefusalsTest(RefusalsTest::brim);
        brim.fullOnes();
        RefusalsTest late = new RefusalsTest(RefusalsTest::late);
        late.behindTheLastTurn();
        theTwoThatChange();
        DUE.end();
    }

    /** A run in which something of each is told: two turns of game 0 are done, none of game 1; one dropped, one is gone. */
    private static PostTurns told() {
        PostTurns x = new PostTurns();
        x.game(7);
        x.game(8);
        for (int h = 0; h < 6; h++) x.holder(h / 4, 10 * h);
        x.cell(9, 1, 1);
        x.cell(101, 0, 6);
        x.cell(102, 1, 1);
        int[] at = {0, 1, 8, 20, 47, 0, 7};
        int[] holder = {0, 1, 1, 2, 3, 4, 5};
        for (int p = 0; p < 7; p++) x.piece(holder[p], at[p], 3 - p % 2);
        Due.rule(x, 1, 0, "z");
        Due.rule(x, 4, 1, "n+1");
        x.runs(2, 0);
        x.card(0, 0, 0);
        x.order(0, 0, 1, 1);
        x.card(2, 2, 9);
        x.order(1, 3, 1, 21);
        x.days(7);
        x.done(0);
        x.drops(1, 2);
        x.days(7);
        x.done(0);
        x.card(2, 1, 0);
        x.order(2, 2, 1, 14);
        x.turn(3, 9, 0);
        x.card(3, 3, 2);
        x.order(3, 4, 0, -5);
        x.turn(2, 0, 1);
        x.card(4, 4, 0);
        x.order(4, 5, 1, 1);
        x.turn(4, 5, 0);
        x.card(5, 5, 0);
        x.order(5, 6, 2, 5);
        x.turn(4, 4, 0);
        x.row(0, 0, 9);
        x.put(0, 1, 3);
        x.row(1, 3, 4);
        x.put(1, 3, -7);
        x.keep(2, 4);
        x.row(4, 4, 2);
        x.pay(3, 500);
        x.way(3, 0, 0);
        x.best();
        x.way(2, 0, 0);
        x.way(2, 1, 14);
        x.act(5, 3, 9);
        x.feed(3, 0x312b74);
        return x;
    }

    /** A run in which all that has a bound is at it: no game, holder, piece, rule, card, order, way, byte has room. */
    private static PostTurns brim() {
        PostTurns x = new PostTurns();
        for (int g = 0; g < 3; g++) x.game(g);
        for (int h = 0; h < 12; h++) x.holder(h % 2, h);
        for (int p = 0; p < 40; p++) x.piece(p % 12, p, 1 + p % 9);
        for (int i = 0; i < 16; i++) x.days(60);
        x.days(35);
        for (int r = 0; r < 20; r++) Due.rule(x, r % 5, r, "" + r);
        for (int c = 0; c < 150; c++) x.card(c % 12, c % 12, c % 10);
        x.row(0, 0, 60);
        for (int i = 0; i < 20; i++) x.read(12 * i % 144, 0, 0, 15);
        for (int i = 0; i < 40; i++) x.feed(4, 0x312b742b);
        for (int p = 0; p < 36; p += 12) {
            for (int w = 0; w < 4; w++) x.way(p, 0, 0);
        }
        return x;
    }

    /** A run whose game 0 is behind its last turn. */
    private static PostTurns late() {
        PostTurns x = new PostTurns();
        x.game(7);
        x.game(8);
        x.holder(0, 9);
        x.holder(0, 9);
        x.piece(0, 0, 1);
        x.piece(1, 40, 1);
        for (int i = 0; i < 4; i++) x.days(60);
        x.way(1, 0, 0);
        x.best();
        x.way(0, 1, 1);
        x.card(0, 0, 0);
        for (int t = 0; t < 30; t++) x.done(0);
        return x;
    }

    /** All that can be asked, and then what comes of going on. */
    private static List<Long> look(PostTurns x) {
        List<Long> all = new ArrayList<>();
        for (int i = 0; i < 25; i++) add(all, x.trace(i));
        things(all, x);
        for (int c = 0; c < x.count(7); c++) {
            for (int what = 0; what < 6; what++) add(all, x.ofCard(c, what));
        }
        for (int o = 0; o < x.count(8); o++) {
            for (int what = 0; what < 7; what++) add(all, x.ofOrder(o, what));
        }
        for (int what = 0; what < 30; what++) add(all, x.inForce(what, 3, 999), x.inForce(what, 0, 8));
        for (int s = 0; s < 6; s++) {
            for (int i = 0; i < 60; i += 1) all.add(x.element(s, i));
            for (int k = 0; k < 7; k++) add(all, x.taken(s, k));
            for (int sort = 0; sort < 6; sort++) add(all, x.shift(s, 0, sort, 0, 0));
        }
        for (int i = 0; i < 3; i++) add(all, x.bestWay(i));
        int[] rows = {0, 1, 10, 100, 333};
        for (int row : rows) add(all, x.judge(row));
        add(all, x.best(), x.bestWay(0), x.bestWay(1), x.turn(3, 20, 0));
        for (int c = 0; c < 300; c++) add(all, x.cell(c, 0, c % 10), x.cell(c, 1, 0));
        add(all, x.rule(4, 0), x.count(6));
        for (int step = 0; step < 2; step++) {
            add(all, x.days(7), x.done(0), x.done(1), x.again(0, 1), x.again(1, 0));
            things(all, x);
        }
        return all;
    }

    private static void things(List<Long> all, PostTurns x) {
        for (int what = 0; what < 10; what++) add(all, x.count(what));
        for (int g = 0; g < 3; g++) {
            for (int what = 0; what < 4; what++) add(all, x.ofGame(g, what));
            add(all, x.bar(g), x.check(g));
        }
        for (int h = 0; h < x.count(1); h++) {
            for (int what = 0; what < 8; what++) add(all, x.ofHolder(h, what));
            add(all, x.says(4, h), x.alike(0, h));
            for (int c = 0; c < 48; c += 5) add(all, x.sees(h, c));
        }
        for (int p = 0; p < x.count(2); p++) {
            for (int what = 0; what < 6; what++) add(all, x.ofPiece(p, what));
            add(all, x.says(2, p), x.orderOf(p), x.was(p, 0), x.was(p, 1), x.drawn(p, 3));
        }
    }

    private static void add(List<Long> all, int... answers) {
        for (int answer : answers) all.add((long) answer);
    }

    private void refused(String call, long want, ToLongFunction<PostTurns> said) {
        PostTurns x = run.get();
        DUE.is(call, said.applyAsLong(x), want);
        List<Long> touched = look(x);
        DUE.is(call + ": so much can be asked", touched.size(), untouched.size());
        int same = 0;
        while (same < Math.min(touched.size(), untouched.size()) && touched.get(same).equals(untouched.get(same))) same++;
        DUE.is(call + " changes nothing: first unlike answer", same, untouched.size());
    }

    private void games() {
        refused("days(0)", BAD, x -> x.days(0));
        refused("days(61)", BAD, x -> x.days(61));
        refused("cell(48, 0, 5)", BAD, x -> x.cell(48, 0, 5));
        refused("cell(200, 0, 5)", BAD, x -> x.cell(200, 0, 5));
        refused("cell(103, 0, 10)", BAD, x -> x.cell(103, 0, 10));
        refused("cell(103, 1, 2)", BAD, x -> x.cell(103, 1, 2));
        refused("cell(103, 2, 1)", BAD, x -> x.cell(103, 2, 1));
        refused("cell(0, 0, 5)", STATE, x -> x.cell(0, 0, 5));
        refused("cell(30, 1, 1)", STATE, x -> x.cell(30, 1, 1));
        refused("cell(100, 1, 1)", NOT, x -> x.cell(100, 1, 1));
        refused("holder(2, 0)", BAD, x -> x.holder(2, 0));
        refused("holder(1, 10000)", BAD, x -> x.holder(1, 10000));
        refused("holder(0, 0)", STATE, x -> x.holder(0, 0));
        refused("runs(6, 0)", VOID, x -> x.runs(6, 0));
        refused("runs(0, 2)", VOID, x -> x.runs(0, 2));
        refused("drops(6, -1)", BAD, x -> x.drops(6, -1));
        refused("drops(0, 0)", BAD, x -> x.drops(0, 0));
        refused("drops(0, 4)", BAD, x -> x.drops(0, 4));
        refused("drops(0, -2)", BAD, x -> x.drops(0, -2));
        refused("drops(1, 0)", STATE, x -> x.drops(1, 0));
        refused("drops(1, -1)", STATE, x -> x.drops(1, -1));
        refused("piece(6, 3, 1)", BAD, x -> x.piece(6, 3, 1));
        refused("piece(4, 48, 1)", BAD, x -> x.piece(4, 48, 1));
        refused("piece(4, 3, 0)", BAD, x -> x.piece(4, 3, 0));
        refused("piece(4, 2, 1)", BAD, x -> x.piece(4, 2, 1));
        refused("piece(0, 30, 1)", STATE, x -> x.piece(0, 30, 1));
        refused("piece(4, 0, 1)", NOT, x -> x.piece(4, 0, 1));
        refused("pay(6, 1)", BAD, x -> x.pay(6, 1));
        refused("pay(0, 0)", BAD, x -> x.pay(0, 0));
        refused("pay(0, 100000)", BAD, x -> x.pay(0, 100000));
        refused("bar(2)", BAD, x -> x.bar(2));
        refused("check(2)", BAD, x -> x.check(2));
        refused("count(10)", BAD, x -> x.count(10));
        refused("ofPiece(7, 0)", VOID, x -> x.ofPiece(7, 0));
        refused("ofHolder(6, 0)", VOID, x -> x.ofHolder(6, 0));
        refused("ofGame(2, 0)", BAD, x -> x.ofGame(2, 0));
        refused("sees(0, 48)", BAD, x -> x.sees(0, 48));
        refused("alike(0, 4)", BAD, x -> x.alike(0, 4));
    }

    private void rules() {
        refused("feed(0, 1)", BAD, x -> x.feed(0, 1));
        refused("feed(5, 1)", BAD, x -> x.feed(5, 1));
        refused("rule(5, 0)", BAD, x -> x.rule(5, 0));
        refused("rule(20, 0)", BAD, x -> x.rule(20, 0));
        refused("rule(0, 30)", BAD, x -> x.rule(0, 30));
        refused("inForce(5, 0, 0)", BAD, x -> x.inForce(5, 0, 0));
        refused("inForce(3, 0, 0)", NOT, x -> x.inForce(3, 0, 0));
        refused("says(3, 0)", BAD, x -> x.says(3, 0));
        refused("says(2, 7)", BAD, x -> x.says(2, 7));
        refused("drawn(0, 30)", BAD, x -> x.drawn(0, 30));
    }

    private void cards() {
        refused("card(0, 0, 10)", BAD, x -> x.card(0, 0, 10));
        refused("card(0, 1, 0)", BAD, x -> x.card(0, 1, 0));
        refused("card(6, 6, 0)", BAD, x -> x.card(6, 6, 0));
        refused("ofCard(6, 0)", BAD, x -> x.ofCard(6, 0));
        refused("order(6, 0, 0, 0)", BAD, x -> x.order(6, 0, 0, 0));
        refused("order(3, 0, 0, 0)", BAD, x -> x.order(3, 0, 0, 0));
        refused("order(2, 1, 0, 0)", BAD, x -> x.order(2, 1, 0, 0));
        refused("order(2, 2, 1, 48)", BAD, x -> x.order(2, 2, 1, 48));
        refused("order(2, 2, 2, 2)", BAD, x -> x.order(2, 2, 2, 2));
        refused("order(2, 2, 2, 1)", BAD, x -> x.order(2, 2, 2, 1));
        refused("order(0, 0, 0, 0)", STATE, x -> x.order(0, 0, 0, 0));
        refused("turn(1, 0, 0)", BAD, x -> x.turn(1, 0, 0));
        refused("turn(4, 5, 0)", BAD, x -> x.turn(4, 5, 0));
        refused("turn(2, 5, 1)", STATE, x -> x.turn(2, 5, 1));
        refused("turn(3, 5, 1)", STATE, x -> x.turn(3, 5, 1));
        refused("turn(4, 0, 1)", STATE, x -> x.turn(4, 0, 1));
        refused("ofOrder(6, 0)", VOID, x -> x.ofOrder(6, 0));
        refused("read(6, 0, 0, 1)", BAD, x -> x.read(6, 0, 0, 1));
        refused("read(3, 6, 0, 1)", BAD, x -> x.read(3, 6, 0, 1));
        refused("read(3, 0, 0, 16)", BAD, x -> x.read(3, 0, 0, 16));
        refused("read(0, 0, 0, 1)", STATE, x -> x.read(0, 0, 0, 1));
        refused("read(3, 1, 0, 1)", -12, x -> x.read(3, 1, 0, 1));
        refused("read(3, 2, 0, 1)", -12, x -> x.read(3, 2, 0, 1));
        refused("read(3, 5, 0, 1)", 0, x -> x.read(3, 5, 0, 1));
        refused("read(3, 0, -1, 1)", 0, x -> x.read(3, 0, -1, 1));
        refused("read(3, 0, 9, 1)", 0, x -> x.read(3, 0, 9, 1));
        refused("orderOf(7)", VOID, x -> x.orderOf(7));
    }

    private void turns() {
        refused("done(2)", BAD, x -> x.done(2));
        refused("done(0)", NOT, x -> x.done(0));
        refused("again(2, 0)", BAD, x -> x.again(2, 0));
        refused("again(0, 30)", BAD, x -> x.again(0, 30));
        refused("again(0, 2)", NOT, x -> x.again(0, 2));
        refused("again(1, 0)", NOT, x -> x.again(1, 0));
        refused("was(7, 0)", BAD, x -> x.was(7, 0));
        refused("was(0, 2)", BAD, x -> x.was(0, 2));
        refused("was(1, 0)", NOT, x -> x.was(1, 0));
    }

    private void best() {
        refused("way(7, 0, 0)", BAD, x -> x.way(7, 0, 0));
        refused("way(3, 0, 0)", BAD, x -> x.way(3, 0, 0));
        refused("way(1, 0, 0)", BAD, x -> x.way(1, 0, 0));
        refused("way(2, 2, 1)", BAD, x -> x.way(2, 2, 1));
        refused("way(2, 2, 2)", BAD, x -> x.way(2, 2, 2));
        refused("way(2, 1, 9)", BAD, x -> x.way(2, 1, 9));
        refused("way(2, 1, 3)", BAD, x -> x.way(2, 1, 3));
        refused("way(2, 3, 0)", BAD, x -> x.way(2, 3, 0));
        refused("bestWay(1)", BAD, x -> x.bestWay(1));
        refused("judge(2)", VOID, x -> x.judge(2));
        refused("judge(10)", VOID, x -> x.judge(10));
        refused("judge(-1)", VOID, x -> x.judge(-1));
        DUE.holds("judge(0) is not refused", run.get().judge(0) != VOID);
        refused("judge(0)", run.get().judge(0), x -> x.judge(0));
        refused("judge(1)", run.get().judge(1), x -> x.judge(1));
    }

    private void shelves() {
        refused("trace(24)", BAD, x -> x.trace(24));
        refused("keep(6, 0)", BAD, x -> x.keep(6, 0));
        refused("keep(0, 6)", BAD, x -> x.keep(0, 6));
        refused("keep(0, -2)", BAD, x -> x.keep(0, -2));
        refused("row(6, 0, 0)", BAD, x -> x.row(6, 0, 0));
        refused("row(0, 5, 0)", BAD, x -> x.row(0, 5, 0));
        refused("row(0, 0, 61)", BAD, x -> x.row(0, 0, 61));
        refused("row(0, 0, -1)", -14, x -> x.row(0, 0, -1));
        refused("put(6, 0, 9)", BAD, x -> x.put(6, 0, 9));
        refused("put(5, 0, 9)", -11, x -> x.put(5, 0, 9));
        refused("put(2, 0, 9)", -12, x -> x.put(2, 0, 9));
        refused("put(0, 9, 9)", -13, x -> x.put(0, 9, 9));
        refused("put(1, -1, 9)", -13, x -> x.put(1, -1, 9));
        refused("element(1, 4)", NO_ELEMENT, x -> x.element(1, 4));
        refused("shift(6, 0, 0, 0, 1)", BAD, x -> x.shift(6, 0, 0, 0, 1));
        refused("shift(0, 0, 5, 0, 1)", -11, x -> x.shift(0, 0, 5, 0, 1));
        refused("shift(0, 0, 2, 0, 1)", -12, x -> x.shift(0, 0, 2, 0, 1));
        refused("shift(0, 0, 1, 0, 1)", -12, x -> x.shift(0, 0, 1, 0, 1));
        refused("shift(0, 0, 0, 2, 8)", -13, x -> x.shift(0, 0, 0, 2, 8));
        refused("shift(0, 1, 0, 2, -1)", -13, x -> x.shift(0, 1, 0, 2, -1));
        refused("taken(2, 7)", BAD, x -> x.taken(2, 7));
        refused("taken(2, 6)", -12, x -> x.taken(2, 6));
        refused("taken(5, 0)", -11, x -> x.taken(5, 0));
    }

    /** A number far out in the first place of each call that takes one. */
    private void farNumbers() {
        for (int far : FAR) {
            refused("days", BAD, x -> x.days(far));
            refused("cell", BAD, x -> x.cell(far, 0, 3));
            refused("holder", BAD, x -> x.holder(far, 0));
            refused("runs", VOID, x -> x.runs(far, 0));
            refused("drops", BAD, x -> x.drops(far, -1));
            refused("piece", BAD, x -> x.piece(far, 3, 1));
            refused("feed", BAD, x -> x.feed(far, 1));
            refused("rule", BAD, x -> x.rule(far, 0));
            refused("says", BAD, x -> x.says(far, 0));
            refused("card", BAD, x -> x.card(far, 0, 0));
            refused("order", BAD, x -> x.order(far, 0, 0, 0));
            refused("turn", BAD, x -> x.turn(far, 0, 0));
            refused("read", BAD, x -> x.read(far, 0, 0, 1));
            refused("done", BAD, x -> x.done(far));
            refused("again", BAD, x -> x.again(far, 0));
            refused("way", BAD, x -> x.way(far, 0, 0));
            refused("judge", VOID, x -> x.judge(far));
            refused("pay", BAD, x -> x.pay(far, 1));
            refused("keep", BAD, x -> x.keep(far, 0));
            refused("row", BAD, x -> x.row(far, 0, 0));
            refused("put", BAD, x -> x.put(far, 0, 1));
            refused("shift", BAD, x -> x.shift(far, 0, 0, 0, 1));
        }
    }

    private void fullOnes() {
        refused("game(5)", FULL, x -> x.game(5));
        refused("holder(0, 0)", FULL, x -> x.holder(0, 0));
        refused("piece(0, 47, 1)", FULL, x -> x.piece(0, 47, 1));
        refused("piece(0, 0, 1)", NOT, x -> x.piece(0, 0, 1));
        refused("feed(1, 49)", FULL, x -> x.feed(1, 49));
        refused("rule(0, 0)", FULL, x -> x.rule(0, 0));
        refused("card(0, 0, 0)", FULL, x -> x.card(0, 0, 0));
        refused("order(0, 0, 0, 0)", FULL, x -> x.order(0, 0, 0, 0));
        refused("read(0, 0, 0, 15)", 0, x -> x.read(0, 0, 0, 15));
        refused("way(0, 0, 0)", FULL, x -> x.way(0, 0, 0));
        refused("way(36, 0, 0)", FULL, x -> x.way(36, 0, 0));
        refused("days(5)", BAD, x -> x.days(5));
        refused("days(60)", BAD, x -> x.days(60));
    }

    private void behindTheLastTurn() {
        refused("done(0)", FULL, x -> x.done(0));
        refused("again(0, 30)", BAD, x -> x.again(0, 30));
        refused("best()", STATE, x -> x.best());
        refused("judge(0)", VOID, x -> x.judge(0));
        refused("cell(0, 0, 5)", STATE, x -> x.cell(0, 0, 5));
        refused("holder(0, 0)", STATE, x -> x.holder(0, 0));
        refused("piece(0, 9, 1)", STATE, x -> x.piece(0, 9, 1));
        refused("ofCard(0, 3)", NOT, x -> x.ofCard(0, 3));
        refused("again(1, 0)", NOT, x -> x.again(1, 0));
    }

    /** What the document says otherwise of: a faulty text, an act of no order. */
    private static void theTwoThatChange() {
        PostTurns x = told();
        x.feed(1, '?');
        DUE.is("rule(0, 0)", x.rule(0, 0), -104);
        DUE.is("the tape is empty", x.count(6), 0);
        DUE.is("there is a trace", x.trace(0), 2);
        DUE.is("act(6, 0, 0)", x.act(6, 0, 0), 0);
        DUE.is("there is none", x.trace(0), -1);
    }
}

/** The edges of promises 1 to 11, sentence by sentence: days, games, cells, holders, pieces, what is told of them. */
public final class GamesEdgesTest {
    private static final Due DUE = new Due("GamesEdgesTest");
    private static final int VOID = -2000000000, MIN = Integer.MIN_VALUE, MAX = Integer.MAX_VALUE;

    public static void main(String[] args) {
        aNewObject();
        objectsPart();
        daysAreFromOneToSixty();
        noDayBeyondTheLast();
        threeGames();
        aSeedIsAnyInt();
        aTurnIsDueSevenDaysOn();
        aGameBegunOnTheLastDay();
        cellsOfEachGame();
        valuesAndWalls();
        cellRefusals();
        coinsAtFirst();
        twelveHolders();
        runsRefusals();
        oneRunsAGame();
        proxies();
        dropsFromTheTurn();
        forces();
        cellsOfPieces();
        fortyPieces();
        pieceRefusals();
        ofPieceEdges();
        ofHolderEdges();
        backEdges();
        ofGameEdges();
        DUE.end();
    }

    /** Promise 1: DAY 0, no games: so nothing is there of which a call could tell. */
    private static void aNewObject() {
        PostTurns x = new PostTurns();
        for (int what = 0; what <= 9; what++) DUE.is("1: count(" + what + ")", x.count(what), 0);
        int[] bad = {x.cell(0, 0, 0), x.holder(0, 0), x.drops(0, -1), x.piece(0, 0, 1), x.ofGame(0, 0), x.rule(0, 0),
            x.inForce(0, 0, 0), x.says(2, 0), x.says(4, 0), x.drawn(0, 0), x.card(0, 0, 0), x.ofCard(0, 0), x.ofCard(0, 3),
            x.order(0, 0, 0, 0), x.read(0, 0, 0, 1), x.done(0), x.again(0, 0), x.was(0, 0), x.sees(0, 0), x.alike(0, 0),
            x.way(0, 0, 0), x.bestWay(0), x.pay(0, 1), x.bar(0), x.trace(0), x.keep(0, 0), x.check(0)};
        for (int i = 0; i < bad.length; i++) DUE.is("1: the " + i + "-th call", bad[i], -1);
        int[] none = {x.runs(0, 0), x.ofPiece(0, 0), x.ofHolder(0, 0), x.ofGame(0, 2), x.ofOrder(0, 0), x.orderOf(0), x.judge(0)};
        for (int i = 0; i < none.length; i++) DUE.is("1: the " + i + "-th call that is VOID", none[i], VOID);
        DUE.is("1: no order", x.turn(3, 0, 0), -4);
        DUE.is("1: no ways", x.best(), -4);
        DUE.is("1: no act", x.act(0, 0, 0), 0);
        for (int shelf = 0; shelf < 6; shelf++) {
            DUE.is("1: nothing on a shelf", x.put(shelf, 0, 0), -11);
            DUE.is("1: nothing on a shelf", x.element(shelf, 0), Long.MIN_VALUE);
            DUE.is("1: nothing on a shelf", x.taken(shelf, 0), -11);
            DUE.is("1: nothing on a shelf", x.shift(shelf, 0, shelf, 0, 0), -11);
        }
        DUE.is("1: the first day", x.days(1), 1);
        DUE.is("1: the first game", x.game(0), 0);
    }

    /** "All memory is the class's own": what is told to one object is not told to another. */
    private static void objectsPart() {
        PostTurns x = new PostTurns();
        x.game(0);
        x.holder(0, 9);
        x.piece(0, 0, 1);
        x.feed(2, 0);
        x.row(0, 3, 9);
        x.days(9);
        PostTurns y = new PostTurns();
        for (int what = 0; what <= 9; what++) DUE.is("1: count(" + what + ") of another object", y.count(what), 0);
        DUE.is("1: a shelf of another object", y.put(0, 0, 0), -11);
        y.game(0);
        y.holder(0, 3);
        DUE.is("1: no piece of the first one", y.ofHolder(0, 4), 0);
        DUE.is("1: the first one stays", x.ofHolder(0, 1), 9);
    }

    /** Promise 2: "n (1 .. 60)". */
    private static void daysAreFromOneToSixty() {
        PostTurns x = new PostTurns();
        int[] bad = {0, -1, 61, 999, MIN, MAX};
        for (int n : bad) DUE.is("2: days(" + n + ")", x.days(n), -1);
        DUE.is("2: none went by", x.count(4), 0);
        DUE.is("2: the least", x.days(1), 1);
        DUE.is("2: the most", x.days(60), 61);
    }

    private static PostTurns onDay(int day) {
        PostTurns x = new PostTurns();
        x.game(1);
        for (int d = 0; d < day; d += 60) x.days(Math.min(60, day - d));
        return x;
    }

    /** Promise 2: "BAD (also beyond 999)"; "DAY is a count, 0 at first, at most 999". */
    private static void noDayBeyondTheLast() {
        for (int day = 938; day <= 999; day++) {
            PostTurns x = onDay(day);
            DUE.is("2: on day " + day, x.count(4), day);
            DUE.is("2: days(60) on day " + day, x.days(60), day <= 939 ? day + 60 : -1);
            DUE.is("2: then it is day", x.count(4), day <= 939 ? day + 60 : day);
            int left = 999 - x.count(4);
            if (left < 60) DUE.is("2: one day too many", x.days(left + 1), -1);
            if (left >= 1 && left <= 60) DUE.is("2: just as many as are left", x.days(left), 999);
        }
        DUE.is("2: behind the last day none", onDay(999).days(1), -1);
    }

    /** Promise 3: "its number. FULL"; "GAMES 0 .. 2, as they come". */
    private static void threeGames() {
        PostTurns x = new PostTurns();
        for (int g = 0; g < 3; g++) {
            DUE.is("3: not there yet", x.ofGame(g, 0), -1);
            DUE.is("3: as they come", x.game(g), g);
            DUE.is("3: there now", x.ofGame(g, 0), 0);
        }
        DUE.is("3: FULL", x.game(5), -3);
        DUE.is("3: FULL again", x.game(MIN), -3);
        DUE.is("3: there are three", x.count(0), 3);
        DUE.is("3: no fourth", x.ofGame(3, 0), -1);
    }

    /** "a SEED (any int)": 0, the least, the greatest. */
    private static void aSeedIsAnyInt() {
        int[] seeds = {0, -1, 1, MIN, MAX};
        for (int seed : seeds) {
            PostTurns x = new PostTurns();
            DUE.is("3: game(" + seed + ")", x.game(seed), 0);
            x.holder(0, 0);
            x.piece(0, 0, 1);
            DUE.is("3: its seed", x.drawn(0, 0), (seed * 1103515245 + 12345 >>> 8) % 100);
        }
    }

    /** "TURN t is DUE on DAY began + 7 (t + 1)": not a day ahead of it, on that day, and behind it. */
    private static void aTurnIsDueSevenDaysOn() {
        for (int began = 0; began < 3; began++) {
            PostTurns x = new PostTurns();
            if (began > 0) x.days(began);
            x.game(0);
            for (int t = 0; t < 5; t++) {
                DUE.is("24: due", x.ofGame(0, 1), began + 7 * (t + 1));
                x.days(6);
                DUE.is("24: a day ahead", x.done(0), -2);
                DUE.is("24: the turn stays", x.ofGame(0, 0), t);
                x.days(1);
                DUE.is("24: on that day", x.done(0), t + 1);
            }
            x.days(8);
            DUE.is("24: a day behind", x.done(0), 6);
        }
    }

    /** A game may begin on DAY 999; its first turn is then DUE on a day that never comes. */
    private static void aGameBegunOnTheLastDay() {
        PostTurns x = onDay(999);
        DUE.is("3: a game", x.game(4), 1);
        DUE.is("11: due", x.ofGame(1, 1), 1006);
        DUE.is("24: never", x.done(1), -2);
        x.holder(1, 3);
        x.piece(0, 0, 1);
        DUE.is("17: a card", x.card(0, 0, 9), 0);
        DUE.is("18: in on day 1008", x.ofCard(0, 2), 1008);
        DUE.is("18: for the second turn", x.ofCard(0, 3), 1);
        DUE.is("18: late", x.ofCard(0, 4), 1);
        DUE.is("18: it counts", x.ofCard(0, 5), 1);
        x.card(0, 0, 7);
        DUE.is("18: for the first turn", x.ofCard(1, 3), 0);
    }

    /** Promise 4: "cell: 100 times the GAME, and the CELL"; "CELLS 0 .. 47 of each GAME". */
    private static void cellsOfEachGame() {
        for (int games = 0; games <= 3; games++) {
            PostTurns x = new PostTurns();
            for (int g = 0; g < games; g++) x.game(g);
            for (int cell = -110; cell <= 410; cell++) {
                boolean there = cell >= 0 && cell / 100 < games && cell % 100 <= 47;
                if (!there || cell % 47 == cell % 3) {
                    DUE.is("4: cell(" + cell + ") of " + games + " games", x.cell(cell, 0, 1), there ? 1 : -1);
                }
            }
            DUE.is("4: the least int", x.cell(MIN, 0, 1), -1);
            DUE.is("4: the greatest int", x.cell(MAX, 0, 1), -1);
        }
        PostTurns x = new PostTurns();
        for (int g = 0; g < 3; g++) x.game(g);
        int[] ends = {0, 47, 100, 147, 200, 247};
        for (int i = 0; i < 6; i++) DUE.is("4: a cell of its own", x.cell(ends[i], 0, 2 + i), 1);
        for (int i = 0; i < 6; i++) DUE.is("4: what it was", x.cell(ends[i], 0, 0), 2 + i);
        for (int i = 0; i < 6; i++) DUE.is("4: no wall at first", x.cell(ends[i], 1, 0), 0);
    }

    /** Promise 4: "VALUE (what 0), WALL (1: 1, 0) becomes v: what it was"; a VALUE is 0 .. 9. */
    private static void valuesAndWalls() {
        PostTurns x = new PostTurns();
        x.game(0);
        int was = 1;
        for (int v = 0; v <= 9; v++) {
            DUE.is("4: value " + v, x.cell(5, 0, v), was);
            was = v;
        }
        int[] bad = {-1, 10, 11, 100, MIN, MAX};
        for (int v : bad) DUE.is("4: value " + v, x.cell(5, 0, v), -1);
        DUE.is("4: the last one stays", x.cell(5, 0, 9), 9);
        DUE.is("4: not a wall yet", x.cell(5, 1, 1), 0);
        int[] badWalls = {-1, 2, 9, MIN, MAX};
        for (int v : badWalls) DUE.is("4: wall " + v, x.cell(5, 1, v), -1);
        DUE.is("4: a wall as it was", x.cell(5, 1, 1), 1);
        DUE.is("4: no wall", x.cell(5, 1, 0), 1);
        DUE.is("4: no wall as it was", x.cell(5, 1, 0), 0);
        DUE.is("4: the value stays", x.cell(5, 0, 3), 9);
        int[] badWhats = {-1, 2, 3, MIN, MAX};
        for (int what : badWhats) DUE.is("4: what " + what, x.cell(5, what, 1), -1);
        DUE.is("4: neither did it change", x.cell(5, 0, 3) * 10 + x.cell(5, 1, 0), 30);
    }

    /** Promise 4: "BAD; STATE: a TURN was done; NOT: a PIECE is there (WALL, v 1)": the one named first. */
    private static void cellRefusals() {
        PostTurns x = new PostTurns();
        x.game(0);
        x.game(0);
        x.holder(0, 0);
        x.holder(1, 0);
        x.piece(0, 0, 1);
        x.piece(1, 47, 1);
        DUE.is("4: NOT", x.cell(0, 1, 1), -2);
        DUE.is("4: NOT in the last cell", x.cell(147, 1, 1), -2);
        DUE.is("4: a piece of the other game is not there", x.cell(47, 1, 1), 0);
        DUE.is("4: a piece of the other game is not there", x.cell(100, 1, 1), 0);
        DUE.is("4: v 0", x.cell(0, 1, 0), 0);
        DUE.is("4: a value", x.cell(0, 0, 1), 1);
        DUE.is("4: BAD ahead of NOT", x.cell(0, 1, 2), -1);
        x.days(7);
        DUE.is("4: due, but not done", x.cell(1, 0, 7), 1);
        x.done(0);
        DUE.is("4: STATE of a value", x.cell(1, 0, 7), -4);
        DUE.is("4: STATE of a wall", x.cell(2, 1, 0), -4);
        DUE.is("4: STATE ahead of NOT", x.cell(0, 1, 1), -4);
        int[][] bad = {{48, 0, 1}, {0, 2, 1}, {0, 0, 10}, {0, 1, 2}, {-1, 0, 1}};
        for (int[] b : bad) DUE.is("4: BAD ahead of STATE", x.cell(b[0], b[1], b[2]), -1);
        DUE.is("4: the other game's is as it was", x.cell(101, 0, 7), 1);
        DUE.is("4: NOT yet", x.cell(147, 1, 1), -2);
    }

    /** Promise 5: "COINS (0 .. 9999 at first; they may fall below 0)". */
    private static void coinsAtFirst() {
        PostTurns x = new PostTurns();
        x.game(0);
        int[] bad = {-1, 10000, MIN, MAX};
        for (int coins : bad) DUE.is("5: coins " + coins, x.holder(0, coins), -1);
        DUE.is("5: none came", x.count(1), 0);
        DUE.is("5: the least", x.holder(0, 0), 0);
        DUE.is("5: the most", x.holder(0, 9999), 1);
        DUE.is("10: 0", x.ofHolder(0, 1), 0);
        DUE.is("10: 9999", x.ofHolder(1, 1), 9999);
        Due.rule(x, 4, 0, "1");
        x.days(7);
        x.done(0);
        DUE.is("10: below 0", x.ofHolder(0, 1), -1);
        DUE.is("10: 9998", x.ofHolder(1, 1), 9998);
    }

    /** Promise 5: "BAD; STATE: a TURN of the GAME was done; FULL"; "HOLDERS 0 .. 11, as they come". */
    private static void twelveHolders() {
        PostTurns x = new PostTurns();
        for (int g = 0; g < 3; g++) x.game(0);
        int[] bad = {-1, 3, MIN, MAX};
        for (int game : bad) DUE.is("5: game " + game, x.holder(game, 0), -1);
        x.days(7);
        DUE.is("5: due, but not done", x.holder(2, 0), 0);
        x.done(2);
        DUE.is("5: STATE", x.holder(2, 0), -4);
        DUE.is("5: BAD ahead of STATE", x.holder(2, 10000), -1);
        for (int h = 1; h < 12; h++) DUE.is("5: of any game, as they come", x.holder(h % 2, h), h);
        DUE.is("5: FULL", x.holder(0, 0), -3);
        DUE.is("5: FULL in the other game", x.holder(1, 0), -3);
        DUE.is("5: STATE ahead of FULL", x.holder(2, 0), -4);
        DUE.is("5: BAD ahead of FULL", x.holder(0, -1), -1);
        DUE.is("5: BAD ahead of FULL", x.holder(3, 0), -1);
        DUE.is("5: there are twelve", x.count(1), 12);
        DUE.is("10: the last one's game", x.ofHolder(11, 0), 1);
        DUE.is("10: no thirteenth", x.ofHolder(12, 0), VOID);
    }

    /** Promise 6: "VOID: BAD". */
    private static void runsRefusals() {
        PostTurns x = new PostTurns();
        x.game(0);
        x.holder(0, 0);
        int[] bad = {-1, 1, 2, 11, 12, MIN, MAX};
        for (int b : bad) {
            DUE.is("6: holder " + b, x.runs(b, 0), VOID);
            DUE.is("6: game " + b, x.runs(0, b), VOID);
        }
        DUE.is("6: none runs it yet", x.ofGame(0, 2), -1);
        DUE.is("6: nobody did", x.runs(0, 0), -1);
    }

    /** Promise 6: "who ran it (-1)"; "one runs it at most, of like tellings the last". */
    private static void oneRunsAGame() {
        PostTurns x = new PostTurns();
        x.game(0);
        x.game(0);
        for (int h = 0; h < 12; h++) x.holder(0, 0);
        DUE.is("6: the last holder", x.runs(11, 1), -1);
        DUE.is("6: the other game", x.ofGame(0, 2), -1);
        DUE.is("6: itself again", x.runs(11, 1), 11);
        DUE.is("6: it runs both", x.runs(11, 0), -1);
        DUE.is("6: another one", x.runs(0, 1), 11);
        DUE.is("6: holder 0 ran it", x.runs(5, 1), 0);
        DUE.is("6: the last telling", x.ofGame(1, 2), 5);
        DUE.is("6: in the first game yet", x.ofGame(0, 2), 11);
        x.days(7);
        x.done(0);
        x.drops(4, -1);
        DUE.is("6: of a game that has begun, by one who dropped", x.runs(4, 0), 11);
    }

    /** Promise 7: "BAD; STATE: it did"; a PROXY is "a HOLDER of that GAME, not it" or none (-1). */
    private static void proxies() {
        PostTurns x = new PostTurns();
        x.game(0);
        x.game(0);
        x.holder(0, 0);
        x.holder(0, 0);
        x.holder(1, 0);
        int[] bad = {-1, 3, 12, MIN, MAX};
        for (int h : bad) DUE.is("7: holder " + h, x.drops(h, -1), -1);
        int[] badProxies = {-2, 0, 2, 3, MIN, MAX};
        for (int proxy : badProxies) DUE.is("7: proxy " + proxy, x.drops(0, proxy), -1);
        DUE.is("7: none is the game's only other one", x.drops(2, 0), -1);
        DUE.is("10: it did not drop", x.ofHolder(0, 2), -1);
        DUE.is("10: it has no proxy", x.ofHolder(0, 3), -1);
        DUE.is("7: a proxy", x.drops(1, 0), 1);
        DUE.is("10: proxy 0", x.ofHolder(1, 3), 0);
        DUE.is("7: STATE", x.drops(1, 0), -4);
        DUE.is("7: STATE", x.drops(1, -1), -4);
        for (int proxy : new int[] {-2, 1, 2, 3}) DUE.is("7: BAD ahead of STATE", x.drops(1, proxy), -1);
        DUE.is("10: proxy 0 yet", x.ofHolder(1, 3), 0);
        DUE.is("7: a proxy that dropped itself", x.drops(0, 1), 1);
        DUE.is("7: none", x.drops(2, -1), 1);
        DUE.is("10: none", x.ofHolder(2, 3), -1);
    }

    /** "DROPS: from the TURN of its GAME on": the first one, one between, and behind the last. */
    private static void dropsFromTheTurn() {
        for (int turns = 0; turns <= 30; turns += 15) {
            PostTurns x = onDay(240);
            x.holder(0, 5);
            x.holder(0, 6);
            x.piece(0, 0, 1);
            x.piece(1, 1, 1);
            for (int t = 0; t < turns; t++) x.done(0);
            DUE.is("7: drops", x.drops(0, 1), 1);
            DUE.is("10: from turn", x.ofHolder(0, 2), turns);
            for (int t = turns; t < 30; t++) x.done(0);
            DUE.is("24: coins of the turns ahead of that", x.ofHolder(0, 1), 5 + turns);
            DUE.is("24: coins of all turns", x.ofHolder(1, 1), 36);
            DUE.is("25: again", x.again(0, 0), 0);
            DUE.is("25: coins of the turns ahead of that", x.ofHolder(0, 1), 5 + turns);
            DUE.is("43: check", x.check(0), 0);
        }
    }

    /** Promise 8: "FORCE 1 .. 9". */
    private static void forces() {
        PostTurns x = new PostTurns();
        x.game(0);
        x.holder(0, 0);
        int[] bad = {0, -1, 10, MIN, MAX};
        for (int force : bad) DUE.is("8: force " + force, x.piece(0, 0, force), -1);
        DUE.is("8: none came", x.count(2), 0);
        for (int force = 1; force <= 9; force++) {
            DUE.is("8: force " + force, x.piece(0, force, force), force - 1);
            DUE.is("9: force " + force, x.ofPiece(force - 1, 2), force);
        }
    }

    /** Promise 8: "in a CELL of its GAME (no WALL, without another PIECE)": 0 and 47 are the ends. */
    private static void cellsOfPieces() {
        PostTurns x = new PostTurns();
        x.game(0);
        x.game(0);
        x.holder(0, 0);
        x.holder(1, 0);
        int[] bad = {-1, 48, 99, 100, 147, MIN, MAX};
        for (int cell : bad) DUE.is("8: cell " + cell, x.piece(1, cell, 1), -1);
        x.cell(0, 1, 1);
        x.cell(147, 1, 1);
        DUE.is("8: a wall", x.piece(0, 0, 1), -1);
        DUE.is("8: a wall", x.piece(1, 47, 1), -1);
        DUE.is("8: the wall is in the other game", x.piece(1, 0, 1), 0);
        DUE.is("8: the wall is in the other game", x.piece(0, 47, 1), 1);
        x.cell(0, 1, 0);
        DUE.is("8: no wall any more", x.piece(0, 0, 1), 2);
        DUE.is("8: another piece", x.piece(0, 0, 1), -2);
        DUE.is("8: another piece", x.piece(0, 47, 9), -2);
        int[] noHolder = {-1, 2, 12, MIN, MAX};
        for (int h : noHolder) DUE.is("8: holder " + h, x.piece(h, 5, 1), -1);
        DUE.is("10: it has one", x.ofHolder(1, 4), 1);
        DUE.is("10: it has two", x.ofHolder(0, 4), 2);
    }

    /** Promise 8: "its number .. FULL"; "PIECES 0 .. 39, as they come". */
    private static void fortyPieces() {
        PostTurns x = new PostTurns();
        x.game(0);
        x.game(0);
        x.holder(0, 0);
        x.holder(1, 0);
        for (int p = 0; p < 40; p++) DUE.is("8: as they come", x.piece(p % 2, p, 1), p);
        DUE.is("8: FULL", x.piece(0, 47, 1), -3);
        DUE.is("8: FULL in the other game", x.piece(1, 47, 1), -3);
        DUE.is("8: NOT ahead of FULL", x.piece(0, 38, 1), -2);
        DUE.is("8: a cell of the other game's piece: FULL", x.piece(0, 39, 1), -3);
        DUE.is("8: BAD ahead of FULL", x.piece(0, 48, 1), -1);
        DUE.is("44: forty", x.count(2), 40);
        DUE.is("10: twenty of each", x.ofHolder(0, 4) * 100 + x.ofHolder(1, 4), 2020);
        DUE.is("9: the last", x.ofPiece(39, 1), 39);
        DUE.is("9: no more", x.ofPiece(40, 1), VOID);
    }

    /** Promise 8: "BAD (FORCE, a WALL); STATE: a TURN was done; NOT: a PIECE is there; FULL": the one named first. */
    private static void pieceRefusals() {
        PostTurns x = new PostTurns();
        x.game(0);
        x.game(0);
        x.holder(0, 0);
        x.holder(1, 0);
        x.cell(9, 1, 1);
        x.piece(0, 0, 1);
        x.days(7);
        DUE.is("8: due, but not done", x.piece(0, 1, 1), 1);
        x.done(0);
        DUE.is("8: STATE", x.piece(0, 2, 1), -4);
        DUE.is("8: STATE ahead of NOT", x.piece(0, 0, 1), -4);
        DUE.is("8: a wall ahead of STATE", x.piece(0, 9, 1), -1);
        DUE.is("8: force ahead of STATE", x.piece(0, 2, 10), -1);
        DUE.is("8: cell ahead of STATE", x.piece(0, 48, 1), -1);
        DUE.is("8: force ahead of NOT", x.piece(1, 0, 0), -1);
        for (int p = 2; p < 40; p++) x.piece(1, p, 1);
        DUE.is("8: STATE ahead of FULL", x.piece(0, 2, 1), -4);
        DUE.is("8: FULL", x.piece(1, 47, 1), -3);
    }

    /** Promise 9: what 0 .. 5; "VOID: BAD". */
    private static void ofPieceEdges() {
        PostTurns x = new PostTurns();
        x.game(0);
        x.holder(0, 0);
        x.piece(0, 0, 1);
        int[] want = {0, 0, 1, 0, -1, 0};
        for (int what = 0; what < 6; what++) DUE.is("9: of the first, " + what, x.ofPiece(0, what), want[what]);
        int[] bad = {-1, 6, 7, MIN, MAX};
        for (int what : bad) DUE.is("9: what " + what, x.ofPiece(0, what), VOID);
        int[] noPiece = {-1, 1, 39, 40, MIN, MAX};
        for (int p : noPiece) {
            for (int what = -1; what <= 6; what++) DUE.is("9: piece " + p, x.ofPiece(p, what), VOID);
        }
    }

    /** Promise 10: what 0 .. 7; "VOID: BAD". */
    private static void ofHolderEdges() {
        PostTurns x = new PostTurns();
        x.game(0);
        x.holder(0, 0);
        int[] want = {0, 0, -1, -1, 0, 0, 0, 0};
        for (int what = 0; what < 8; what++) DUE.is("10: of the first, " + what, x.ofHolder(0, what), want[what]);
        int[] bad = {-1, 8, 9, MIN, MAX};
        for (int what : bad) DUE.is("10: what " + what, x.ofHolder(0, what), VOID);
        int[] noHolder = {-1, 1, 11, 12, MIN, MAX};
        for (int h : noHolder) {
            for (int what = -1; what <= 8; what++) DUE.is("10: holder " + h, x.ofHolder(h, what), VOID);
        }
    }

    /** "BACK: what it PAID above that": 0 if it paid less, and if it paid just as much. */
    private static void backEdges() {
        PostTurns x = new PostTurns();
        x.game(0);
        x.holder(0, 0);
        Due.rule(x, 4, 0, "10");
        x.days(7);
        x.done(0);
        int[] paid = {9, 1, 1};
        int[] back = {0, 0, 1};
        DUE.is("10: nothing paid", x.ofHolder(0, 7), 0);
        for (int i = 0; i < 3; i++) {
            x.pay(0, paid[i]);
            DUE.is("10: paid " + x.ofHolder(0, 6) + " of 10", x.ofHolder(0, 7), back[i]);
        }
    }

    /** Promise 11: what 0 .. 3; "BAD (2: VOID)". */
    private static void ofGameEdges() {
        PostTurns x = new PostTurns();
        x.game(0);
        int[] want = {0, 7, -1, 0};
        for (int what = 0; what < 4; what++) DUE.is("11: of the first, " + what, x.ofGame(0, what), want[what]);
        int[] bad = {-1, 4, 5, MIN, MAX};
        for (int what : bad) DUE.is("11: what " + what, x.ofGame(0, what), -1);
        int[] noGame = {-1, 1, 2, 3, MIN, MAX};
        for (int g : noGame) {
            for (int what = -1; what <= 4; what++) DUE.is("11: game " + g, x.ofGame(g, what), what == 2 ? VOID : -1);
        }
    }
}

/** The edges of promises 29 to 32, sentence by sentence: ways, best rows, rows judged. */
public final class BestEdgesTest {
    private static final Due DUE = new Due("BestEdgesTest");
    private static final int VOID = -2000000000, MIN = Integer.MIN_VALUE, MAX = Integer.MAX_VALUE;

    public static void main(String[] args) {
        wayRefusals();
        wayOfOneHolder();
        waysOfGoneOnes();
        threePiecesFourWays();
        bestRefusals();
        bestWayRefusals();
        judgeRefusals();
        digitsOfEachPlace();
        ofAnotherGame();
        theFirstOfLikeRows();
        theMostPieces();
        coinsBelowZero();
        rowsAreParted();
        toldOnesByNoOrder();
        behindTheLastTurn();
        DUE.end();
    }

    /** Two games. Pieces 0 to 3 of holder 0 in the first column, 4 of holder 1; 5 of holder 2 in the other game. */
    private static PostTurns made() {
        PostTurns x = new PostTurns();
        x.game(1);
        x.game(2);
        for (int h = 0; h < 3; h++) x.holder(h / 2, 100);
        for (int p = 0; p < 4; p++) x.piece(0, 12 * p, 2);
        x.piece(1, 14, 2);
        x.piece(2, 0, 2);
        return x;
    }

    /** Promise 29: "BAD (also: ..; itself helped; not BESIDE, a WALL)". */
    private static void wayRefusals() {
        PostTurns x = made();
        x.cell(1, 1, 1);
        int[] none = {-1, 6, 39, 40, MIN, MAX};
        for (int p : none) {
            for (int what = 0; what <= 2; what++) DUE.is("29: piece " + p, x.way(p, what, 1), -1);
        }
        int[] badWhats = {-1, 3, 4, MIN, MAX};
        for (int what : badWhats) DUE.is("29: what " + what, x.way(0, what, 6), -1);
        int[] noCells = {-1, 48, 100, 0, 1, 7, 12, MIN, MAX};
        for (int cell : noCells) DUE.is("29: to " + cell, x.way(0, 1, cell), -1);
        int[] noHelp = {-1, 0, 5, 6, 40, MIN, MAX};
        for (int p : noHelp) DUE.is("29: helps " + p, x.way(0, 2, p), -1);
        DUE.is("30: none is told", x.best(), -4);
        DUE.is("29: stays, at any", x.way(0, 0, MIN), 1);
        DUE.is("29: stays, at any", x.way(0, 0, MAX), 2);
        DUE.is("29: to the cell beside", x.way(0, 1, 6), 3);
        DUE.is("29: helps one of another holder", x.way(0, 2, 4), 4);
    }

    /** Promise 29: "of another HOLDER than the first told one": till best() was not refused. */
    private static void wayOfOneHolder() {
        PostTurns x = made();
        DUE.is("29: the first", x.way(4, 0, 0), 1);
        DUE.is("29: of another holder", x.way(0, 0, 0), -1);
        DUE.is("29: of another game", x.way(5, 0, 0), -1);
        DUE.is("29: the first again", x.way(4, 1, 15), 2);
        DUE.is("30: best", x.best(), 101);
        DUE.is("29: of another holder now", x.way(0, 0, 0), 1);
        DUE.is("29: the first one's not", x.way(4, 0, 0), -1);
        DUE.is("32: judged", x.judge(0), 104);
        DUE.is("29: judging takes no ways away", x.way(4, 0, 0), -1);
        DUE.is("29: of its holder", x.way(3, 0, 0), 1);
    }

    /** Promise 29: "BAD (also: GONE, one GONE helped ..)". */
    private static void waysOfGoneOnes() {
        PostTurns x = made();
        x.piece(0, 15, 1);
        x.card(1, 1, 0);
        x.order(0, 4, 1, 15);
        x.days(7);
        DUE.is("29: there yet", x.way(6, 0, 0), 1);
        DUE.is("29: helped yet", x.way(0, 2, 6), 1);
        x.done(0);
        DUE.is("9: gone", x.ofPiece(6, 3), 1);
        for (int what = 0; what <= 2; what++) DUE.is("29: gone", x.way(6, what, 9), -1);
        DUE.is("29: one gone helped", x.way(1, 2, 6), -1);
        DUE.is("32: they stay", x.judge(0), 100 + 4 + 4);
        DUE.is("30: and best", x.best(), 108);
        DUE.is("31: of two pieces", x.bestWay(1), 0);
        DUE.is("29: gone", x.way(6, 0, 0), -1);
    }

    /** Promise 29: "FULL: 3 PIECES, 4 ways": BAD is ahead of it. */
    private static void threePiecesFourWays() {
        PostTurns x = made();
        for (int w = 1; w <= 4; w++) {
            for (int p = 0; p < 3; p++) DUE.is("29: its ways", x.way(p, 0, 0), w);
        }
        for (int p = 0; p < 3; p++) {
            DUE.is("29: FULL: four ways", x.way(p, 0, 0), -3);
            DUE.is("29: BAD ahead of FULL", x.way(p, 1, 12 * p), -1);
        }
        DUE.is("29: FULL: three pieces", x.way(3, 0, 0), -3);
        DUE.is("29: BAD ahead of FULL: of another holder", x.way(4, 0, 0), -1);
        DUE.is("29: BAD ahead of FULL", x.way(3, 1, 0), -1);
        DUE.is("32: the last row", x.judge(333), 104);
        DUE.is("32: no more", x.judge(334), VOID);
        DUE.is("30: best", x.best(), 104);
        for (int p = 0; p < 3; p++) DUE.is("31: the first", x.bestWay(p), 0);
        DUE.is("29: room again", x.way(3, 0, 0), 1);
    }

    /** Promise 30: "told ways are none then. STATE: none is told, or TURN 29 was done". */
    private static void bestRefusals() {
        PostTurns x = made();
        DUE.is("30: none is told", x.best(), -4);
        DUE.is("31: no best row", x.bestWay(0), -1);
        x.way(1, 0, 0);
        DUE.is("30: one", x.best(), 104);
        DUE.is("30: none is told then", x.best(), -4);
        DUE.is("32: nor judged", x.judge(0), VOID);
        DUE.is("31: of the latest that was not refused", x.bestWay(0), 0);
        DUE.is("29: from the first on", x.way(1, 0, 0), 1);
    }

    /** Promise 31: "of the i-th PIECE in the latest best() that was not refused. BAD". */
    private static void bestWayRefusals() {
        PostTurns x = made();
        for (int i = -1; i <= 3; i++) DUE.is("31: none yet", x.bestWay(i), -1);
        x.cell(6, 0, 9);
        x.cell(25, 0, 9);
        x.way(0, 0, 0);
        x.way(0, 1, 6);
        x.way(1, 0, 0);
        x.way(2, 1, 18);
        x.way(2, 0, 0);
        x.way(2, 1, 25);
        for (int i = -1; i <= 3; i++) DUE.is("31: told, none yet", x.bestWay(i), -1);
        DUE.is("30: best", x.best(), 120);
        int[] want = {1, 0, 2};
        for (int i = 0; i < 3; i++) DUE.is("31: of the " + i + "-th", x.bestWay(i), want[i]);
        int[] none = {-1, 3, 4, MIN, MAX};
        for (int i : none) DUE.is("31: i " + i, x.bestWay(i), -1);
        x.way(3, 0, 0);
        DUE.is("31: ahead of the next best()", x.bestWay(2), 2);
        x.judge(0);
        DUE.is("31: judged", x.bestWay(0), 1);
        x.best();
        DUE.is("31: of one piece", x.bestWay(0), 0);
        DUE.is("31: no second", x.bestWay(1), -1);
        x.best();
        DUE.is("31: the refused one tells nothing", x.bestWay(0), 0);
    }

    /** Promise 32: "VOID: BAD, STATE": no such way, too many digits, below 0. */
    private static void judgeRefusals() {
        PostTurns x = made();
        int[] any = {-1, 0, 1, 10, MIN, MAX};
        for (int row : any) DUE.is("32: none is told: " + row, x.judge(row), VOID);
        x.way(0, 0, 0);
        x.way(0, 1, 6);
        int[] bad = {-1, -10, 2, 3, 9, 10, 11, 100, 1000000000, MIN, MIN + 1, MAX};
        for (int row : bad) DUE.is("32: of one piece with two ways: " + row, x.judge(row), VOID);
        DUE.is("32: the first", x.judge(0), 104);
        DUE.is("32: the last", x.judge(1), 104);
        x.way(1, 0, 0);
        int[] worse = {-1, 1, 2, 11, 20, 21, 100, 110, -10, MIN, MAX};
        for (int row : worse) DUE.is("32: of two pieces: " + row, x.judge(row), VOID);
        DUE.is("32: 00", x.judge(0), 104);
        DUE.is("32: 10", x.judge(10), 104);
    }

    /** "(decimal digits as written: the way of the first PIECE, then the next one)". */
    private static void digitsOfEachPlace() {
        PostTurns x = made();
        x.cell(6, 0, 3);
        x.cell(1, 0, 5);
        x.cell(13, 0, 7);
        x.cell(18, 0, 9);
        x.cell(25, 0, 8);
        int[][] ways = {{0, 0, 0}, {0, 1, 6}, {0, 1, 1}, {1, 0, 0}, {1, 1, 13}, {1, 1, 18}, {2, 0, 0}, {2, 1, 25}};
        for (int[] w : ways) x.way(w[0], w[1], w[2]);
        int[][] values = {{1, 3, 5}, {1, 7, 9}, {1, 8}};
        int most = 0;
        for (int row = 0; row <= 400; row++) {
            int a = row / 100, b = row / 10 % 10, c = row % 10;
            boolean there = a < 3 && b < 3 && c < 2;
            int coins = there ? 101 + values[0][a] + values[1][b] + values[2][c] : VOID;
            DUE.is("32: row " + row, x.judge(row), coins);
            most = Math.max(most, coins);
        }
        DUE.is("30: the most of all", x.best(), most);
        DUE.is("31: 221", x.bestWay(0) * 100 + x.bestWay(1) * 10 + x.bestWay(2), 221);
    }

    /** Ways of one holder of another game alone: its game's TURN, RULES and pieces are those that count. */
    private static void ofAnotherGame() {
        PostTurns x = made();
        x.cell(101, 0, 4);
        Due.rule(x, 14, 0, "2");
        Due.rule(x, 4, 0, "50");
        Due.rule(x, 0, 0, "0");
        for (int i = 0; i < 4; i++) x.days(60);
        for (int t = 0; t < 30; t++) x.done(0);
        x.way(5, 1, 1);
        x.way(5, 0, 0);
        DUE.is("32: of its game", x.judge(0), 102);
        DUE.is("32: of its game", x.judge(1), 99);
        DUE.is("30: of its game", x.best(), 102);
        x.way(0, 0, 0);
        DUE.is("30: the other game's turn 29 was done", x.best(), -4);
    }

    /** "of like ones the most PIECES; then the first (PIECE by PIECE as told, the earlier told way)". */
    private static void theFirstOfLikeRows() {
        PostTurns x = made();
        x.cell(6, 0, 5);
        x.cell(1, 0, 5);
        x.cell(13, 0, 5);
        x.cell(11, 0, 5);
        x.way(1, 0, 0);
        x.way(1, 1, 13);
        x.way(1, 1, 6);
        x.way(0, 0, 0);
        x.way(0, 1, 6);
        x.way(0, 1, 1);
        DUE.is("32: 1 1", x.judge(11), 112);
        DUE.is("32: 1 2", x.judge(12), 112);
        DUE.is("32: 2 2", x.judge(22), 112);
        DUE.is("32: 2 0", x.judge(20), 108);
        DUE.is("30: of three like rows", x.best(), 112);
        DUE.is("31: the earlier way of the first told", x.bestWay(0), 1);
        DUE.is("31: then that of the next", x.bestWay(1), 1);
    }

    /** "the most COINS ..; of like ones the most PIECES": a later row with more of them, not with as many. */
    private static void theMostPieces() {
        for (int run = 0; run < 2; run++) {
            PostTurns x = made();
            x.cell(8, 0, 0);
            x.cell(14, 0, 0);
            x.piece(0, 8, 1);
            x.cell(2, 0, 0);
            x.cell(9, 0, 0);
            x.card(1, 1, 0);
            x.order(0, 4, 1, 8);
            if (run == 1) x.way(6, 1, 2);
            x.way(6, 0, 0);
            x.way(6, 1, 2);
            x.way(6, 1, 9);
            for (int w = 0; w < 3 + run; w++) DUE.is("32: like coins", x.judge(w), 104);
            DUE.is("30: like coins", x.best(), 104);
            DUE.is("31: the first with most pieces", x.bestWay(0), 1 - run);
        }
    }

    /** COINS may be below 0: the most of them yet. */
    private static void coinsBelowZero() {
        PostTurns x = made();
        Due.rule(x, 4, 0, "9999");
        x.cell(6, 0, 2);
        x.cell(1, 0, 3);
        x.way(0, 0, 0);
        x.way(0, 1, 6);
        x.way(0, 1, 1);
        DUE.is("32: judged", x.judge(0), 104 - 9999);
        DUE.is("30: best", x.best(), 106 - 9999);
        DUE.is("31: the last", x.bestWay(0), 2);
    }

    /** Each row is judged as the turn begins: what failed, was cut or gone in the row ahead of it is not so in the next. */
    private static void rowsAreParted() {
        PostTurns x = made();
        x.piece(1, 1, 5);
        x.cell(6, 0, 7);
        x.cell(1, 0, 9);
        x.way(0, 1, 1);
        x.way(0, 1, 6);
        x.way(0, 0, 0);
        x.way(0, 1, 6);
        int[] want = {104, 110, 104, 110};
        for (int again = 0; again < 2; again++) {
            for (int row = 0; row < 4; row++) DUE.is("32: way " + row, x.judge(row), want[row]);
        }
        DUE.is("30: best", x.best(), 110);
        DUE.is("31: the first of them", x.bestWay(0), 1);
        PostTurns y = made();
        y.cell(13, 0, 9);
        y.piece(1, 13, 3);
        y.card(0, 0, 0);
        y.order(0, 1, 1, 13);
        y.piece(0, 7, 2);
        y.order(0, 7, 2, 1);
        y.card(1, 1, 0);
        y.order(1, 4, 0, 0);
        y.way(0, 0, 0);
        y.way(0, 1, 1);
        for (int again = 0; again < 2; again++) {
            DUE.is("32: the help is not cut", y.judge(0), 113);
            DUE.is("32: nor by its own holder", y.judge(1), 113);
        }
        y.best();
        y.piece(1, 8, 1);
        y.way(8, 1, 7);
        y.way(8, 0, 0);
        int[] coins = {100 + 1 + 9 + 1, 100 + 1 + 1, 100 + 1 + 9 + 1, 100 + 1 + 1};
        for (int i = 0; i < 4; i++) DUE.is("32: where the help is cut, and where it is not", y.judge(i % 2), coins[i]);
    }

    /** "(others by THE ORDERS as they are; the told ones must be such as can be and MAY, else they STAY)". */
    private static void toldOnesByNoOrder() {
        PostTurns x = made();
        x.cell(1, 0, 9);
        x.cell(13, 0, 8);
        x.card(0, 0, 0);
        x.order(0, 0, 1, 1);
        x.order(0, 1, 1, 13);
        x.way(1, 0, 0);
        DUE.is("32: the other by its order, the told one stays", x.judge(0), 112);
        x.way(0, 0, 0);
        DUE.is("32: both stay", x.judge(0), 104);
        x.best();
        x.way(0, 1, 1);
        Due.rule(x, 0, 0, "p");
        DUE.is("32: it may not, nor by its order", x.judge(0), 111);
        Due.rule(x, 0, 0, "p=0");
        DUE.is("32: the other may not", x.judge(0), 112);
        x.cell(1, 1, 1);
        DUE.is("30: it cannot", x.best(), 104);
        DUE.is("31: its way", x.bestWay(0), 0);
    }

    /** Promises 30 and 32: "STATE: .. TURN 29 was done": ways stay, and the best row that was found. */
    private static void behindTheLastTurn() {
        PostTurns x = made();
        for (int i = 0; i < 4; i++) x.days(60);
        for (int t = 0; t < 29; t++) x.done(0);
        x.way(0, 0, 0);
        x.way(1, 0, 0);
        x.way(1, 1, 13);
        DUE.is("30: in turn 29", x.best(), 100 + 4 * 30);
        x.way(2, 0, 0);
        x.done(0);
        DUE.is("30: behind it", x.best(), -4);
        DUE.is("32: behind it", x.judge(0), VOID);
        DUE.is("31: of the one that was not refused", x.bestWay(1), 0);
        DUE.is("31: of two pieces", x.bestWay(2), -1);
        DUE.is("29: ways stay", x.way(2, 0, 0), 2);
        DUE.is("29: of one holder yet", x.way(4, 0, 0), -1);
    }
}

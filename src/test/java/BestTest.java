/** Promises 29 to 32: ways, best rows, rows judged. */
public final class BestTest {
    private static final Due DUE = new Due("BestTest");
    private static final int VOID = -2000000000;

    public static void main(String[] args) {
        telling();
        fullOnes();
        picking();
        likeRows();
        digits();
        others();
        unfit();
        changesNothing();
        asIfDone();
        goneAndDropped();
        lastTurn();
        DUE.end();
    }

    private static PostTurns two() {
        PostTurns x = new PostTurns();
        x.game(9);
        x.holder(0, 100);
        x.holder(0, 20);
        x.piece(0, 0, 3);
        x.piece(0, 8, 2);
        x.piece(1, 24, 3);
        x.piece(1, 31, 2);
        return x;
    }

    private static void telling() {
        PostTurns x = two();
        x.cell(7, 1, 1);
        x.game(1);
        x.holder(1, 0);
        x.piece(2, 0, 1);
        DUE.is("no piece", x.way(5, 0, 0), -1);
        DUE.is("piece -1", x.way(-1, 0, 0), -1);
        DUE.is("what 3", x.way(0, 3, 0), -1);
        DUE.is("what -1", x.way(0, -1, 0), -1);
        DUE.is("cell 48", x.way(0, 1, 48), -1);
        DUE.is("cell -1", x.way(0, 1, -1), -1);
        DUE.is("not beside", x.way(0, 1, 2), -1);
        DUE.is("its own cell", x.way(0, 1, 0), -1);
        DUE.is("a wall", x.way(1, 1, 7), -1);
        DUE.is("itself", x.way(0, 2, 0), -1);
        DUE.is("helps none", x.way(0, 2, 5), -1);
        DUE.is("one of another game", x.way(0, 2, 4), -1);
        DUE.is("none told", x.best(), -4);
        DUE.is("none judged", x.judge(0), VOID);
        DUE.is("a way", x.way(0, 0, -99), 1);
        DUE.is("of another holder", x.way(2, 0, 0), -1);
        DUE.is("a way", x.way(0, 2, 3), 2);
        DUE.is("a way", x.way(1, 1, 9), 1);
        DUE.is("the same way", x.way(1, 1, 9), 2);
        DUE.is("best", x.best(), 102);
        DUE.is("bestWay", x.bestWay(0), 0);
        DUE.is("bestWay", x.bestWay(1), 0);
        DUE.is("bestWay 2", x.bestWay(2), -1);
        DUE.is("bestWay -1", x.bestWay(-1), -1);
        DUE.is("none told then", x.best(), -4);
        DUE.is("the refused one changes nothing", x.bestWay(1), 0);
        DUE.is("another holder then", x.way(2, 0, 0), 1);
        DUE.is("ahead of best() it is as it was", x.bestWay(1), 0);
        DUE.is("best", x.best(), 22);
        DUE.is("bestWay 1", x.bestWay(1), -1);
    }

    private static void fullOnes() {
        PostTurns x = new PostTurns();
        x.game(0);
        x.holder(0, 0);
        for (int p = 0; p < 4; p++) x.piece(0, 2 * p, 1);
        for (int p = 0; p < 3; p++) {
            for (int w = 1; w <= 4; w++) DUE.is("way", x.way(p, 0, 0), w);
            DUE.is("four ways", x.way(p, 0, 0), -3);
        }
        DUE.is("three pieces", x.way(3, 0, 0), -3);
        DUE.is("BAD ahead of FULL", x.way(3, 1, 6), -1);
        DUE.is("best", x.best(), 4);
        for (int i = 0; i < 3; i++) DUE.is("the first", x.bestWay(i), 0);
    }

    private static void picking() {
        PostTurns x = two();
        x.cell(1, 0, 5);
        x.cell(6, 0, 7);
        x.cell(9, 0, 2);
        x.way(0, 0, 0);
        x.way(0, 1, 1);
        x.way(0, 1, 6);
        x.way(1, 1, 7);
        x.way(1, 1, 9);
        DUE.is("judged", x.judge(0), 102);
        DUE.is("judged", x.judge(1), 103);
        DUE.is("judged", x.judge(10), 106);
        DUE.is("judged", x.judge(21), 109);
        DUE.is("best", x.best(), 109);
        DUE.is("the first's", x.bestWay(0), 2);
        DUE.is("the second's", x.bestWay(1), 1);
    }

    private static void likeRows() {
        // Of like coins the most pieces: the fee takes what one more piece brings.
        PostTurns x = two();
        x.cell(24, 0, 0);
        x.piece(0, 25, 1);
        Due.rule(x, 4, 0, "n-2");
        x.card(1, 1, 0);
        x.order(0, 2, 1, 25);
        x.way(4, 0, 0);
        x.way(4, 1, 26);
        DUE.is("it would be gone", x.judge(0), 102);
        DUE.is("it goes away", x.judge(1), 102);
        DUE.is("alike", x.best(), 102);
        DUE.is("the most pieces", x.bestWay(0), 1);
        // Of like ones the first, by the first piece ahead of the second.
        x = two();
        x.cell(1, 0, 3);
        x.cell(7, 0, 3);
        x.way(0, 0, 0);
        x.way(0, 1, 1);
        x.way(1, 0, 0);
        x.way(1, 1, 7);
        DUE.is("judged", x.judge(1), 104);
        DUE.is("judged", x.judge(10), 104);
        x.cell(1, 0, 1);
        x.cell(7, 0, 1);
        DUE.is("all alike", x.best(), 102);
        DUE.is("the first", x.bestWay(0), 0);
        DUE.is("the first", x.bestWay(1), 0);
        x = two();
        x.cell(1, 0, 3);
        x.cell(7, 0, 3);
        x.way(0, 0, 0);
        x.way(0, 1, 1);
        x.way(1, 0, 0);
        x.way(1, 1, 7);
        Due.rule(x, 0, 0, "p=0&d=1|p=1&d=7");
        x.cell(0, 0, 9);
        x.cell(8, 0, 3);
        DUE.is("best", x.best(), 112);
        DUE.is("stays at 9", x.bestWay(0), 0);
        DUE.is("the earlier of like ways", x.bestWay(1), 0);
    }

    private static void digits() {
        PostTurns x = two();
        x.piece(0, 40, 1);
        x.way(0, 0, 0);
        x.way(0, 1, 1);
        x.way(1, 0, 0);
        x.way(4, 0, 0);
        x.way(4, 1, 41);
        x.way(4, 1, 46);
        x.cell(1, 0, 9);
        x.cell(41, 0, 5);
        x.cell(46, 0, 7);
        DUE.is("000", x.judge(0), 103);
        DUE.is("001", x.judge(1), 107);
        DUE.is("002", x.judge(2), 109);
        DUE.is("102", x.judge(102), 117);
        DUE.is("no way 3", x.judge(3), VOID);
        DUE.is("no way 1 of the second", x.judge(10), VOID);
        DUE.is("no way 2 of the first", x.judge(200), VOID);
        DUE.is("four digits", x.judge(1000), VOID);
        DUE.is("-1", x.judge(-1), VOID);
        DUE.is("-1000", x.judge(-1000), VOID);
        DUE.is("min", x.judge(Integer.MIN_VALUE), VOID);
        DUE.is("max", x.judge(Integer.MAX_VALUE), VOID);
        DUE.is("ways stay", x.judge(102), 117);
        DUE.is("no best by it", x.bestWay(0), -1);
    }

    private static void others() {
        PostTurns x = two();
        // 1 in 8 goes to 7 by its order, if it is not told; the other holder's 2 stays.
        x.cell(7, 0, 6);
        x.card(0, 0, 0);
        x.order(0, 1, 1, 7);
        x.way(0, 1, 6);
        DUE.is("the other goes", x.judge(0), 100 + 1 + 6);
        x.way(1, 0, 0);
        DUE.is("told, it stays", x.judge(0), 100 + 1 + 1);
        x.best();
        x.order(0, 0, 1, 1);
        x.way(1, 1, 7);
        x.cell(1, 0, 9);
        DUE.is("by its order", x.best(), 100 + 9 + 6);
    }

    private static void unfit() {
        PostTurns x = two();
        x.cell(1, 0, 9);
        x.way(0, 1, 1);
        DUE.is("may", x.judge(0), 110);
        Due.rule(x, 0, 0, "!(p=0&o=1&d=1&v=9&t=0)");
        DUE.is("may not", x.judge(0), 102);
        Due.rule(x, 0, 0, "1");
        x.cell(1, 1, 1);
        DUE.is("a wall now", x.judge(0), 102);
        x.cell(1, 1, 0);
        x.card(0, 0, 0);
        x.order(0, 0, 1, 6);
        x.days(7);
        x.done(0);
        DUE.is("not beside now", x.judge(0), 104);
        x.way(0, 1, 0);
        DUE.is("beside now", x.judge(1), 104);
    }

    private static void changesNothing() {
        PostTurns x = two();
        x.card(1, 1, 0);
        x.order(0, 2, 1, 18);
        x.days(7);
        x.done(0);
        x.card(1, 1, 0);
        x.order(1, 2, 1, 12);
        x.way(2, 1, 24);
        x.way(2, 1, 19);
        x.judge(1);
        x.best();
        int[] want = {1, 18, 3, 0, 0, 0};
        for (int what = 0; what < 6; what++) DUE.is("ofPiece " + what, x.ofPiece(2, what), want[what]);
        DUE.is("coins", x.ofHolder(1, 1), 22);
        DUE.is("owed", x.ofHolder(1, 5), 0);
        DUE.is("times", x.ofGame(0, 3), 1);
        DUE.is("turn", x.ofGame(0, 0), 1);
        DUE.is("check", x.check(0), 0);
        DUE.is("the order", x.orderOf(2), 1);
    }

    /** What is judged is what the same orders bring when the turn is done. */
    private static void asIfDone() {
        ties();
        int[][] rows = {{0, 1, 1}, {0, 1, 6}, {0, 0, 0}, {1, 1, 7}, {1, 1, 2}, {1, 2, 0}, {4, 1, 19}, {4, 1, 21}, {4, 2, 1}};
        for (int row = 0; row < 27; row++) {
            int a = row / 9, b = 3 + row / 3 % 3, c = 6 + row % 3;
            PostTurns x = ready();
            for (int[] way : rows) x.way(way[0], way[1], way[2]);
            int judged = x.judge(row / 9 * 100 + row / 3 % 3 * 10 + row % 3);
            x.order(0, 0, rows[a][1], rows[a][2]);
            x.order(0, 1, rows[b][1], rows[b][2]);
            x.order(0, 4, rows[c][1], rows[c][2]);
            x.days(7);
            x.done(0);
            DUE.is("row " + row, judged, x.ofHolder(0, 1));
        }
        PostTurns x = ready();
        for (int[] way : rows) x.way(way[0], way[1], way[2]);
        int most = Integer.MIN_VALUE;
        for (int row = 0; row < 27; row++) most = Math.max(most, x.judge(row / 9 * 100 + row / 3 % 3 * 10 + row % 3));
        DUE.is("best", x.best(), most);
    }

    /** Where strengths are alike the TIE of the told way decides, of a way that stands as much as of an order. */
    private static void ties() {
        for (int won = 0; won < 2; won++) {
            PostTurns x = two();
            x.cell(25, 0, 9);
            x.piece(0, 26, 3);
            x.card(1, 1, 0);
            x.order(0, 2, 1, 25);
            Due.rule(x, 1, 0, won == 1 ? "d=25&p=4" : "p=2");
            x.way(4, 1, 25);
            x.way(4, 1, 27);
            DUE.is("by the tie", x.judge(0), won == 1 ? 111 : 103);
            DUE.is("another cell", x.judge(1), 103);
            DUE.is("best", x.best(), won == 1 ? 111 : 103);
        }
    }

    private static PostTurns ready() {
        PostTurns x = new PostTurns();
        x.game(41);
        x.holder(0, 100);
        x.holder(0, 20);
        for (int c = 0; c < 48; c++) x.cell(c, 0, c * 7 % 10);
        x.piece(0, 0, 3);
        x.piece(0, 8, 2);
        x.piece(1, 7, 2);
        x.piece(1, 26, 3);
        x.piece(0, 20, 2);
        Due.rule(x, 1, 0, "z");
        Due.rule(x, 4, 0, "n*n");
        Due.rule(x, 0, 0, "!(p=4&o=2)");
        x.card(0, 0, 0);
        x.card(1, 1, 0);
        x.order(1, 2, 1, 6);
        x.order(1, 3, 1, 20);
        return x;
    }

    private static void goneAndDropped() {
        PostTurns x = two();
        x.piece(0, 25, 1);
        x.card(1, 1, 0);
        x.order(0, 2, 1, 25);
        x.way(4, 1, 26);
        x.way(4, 0, 0);
        x.way(0, 2, 4);
        x.days(7);
        x.done(0);
        DUE.is("one told is gone", x.ofPiece(4, 3), 1);
        DUE.is("refused then", x.way(4, 0, 0), -1);
        DUE.is("one gone helped", x.way(0, 2, 4), -1);
        DUE.is("judged", x.judge(10), 104);
        DUE.is("best", x.best(), 104);
        DUE.is("the first of like ones", x.bestWay(0), 0);
        DUE.is("the first of like ones", x.bestWay(1), 0);
        x.way(0, 1, 1);
        x.drops(0, -1);
        DUE.is("one who dropped has no more", x.best(), 102);
    }

    private static void lastTurn() {
        PostTurns x = two();
        for (int i = 0; i < 4; i++) x.days(60);
        for (int t = 0; t < 29; t++) x.done(0);
        x.way(0, 0, 0);
        DUE.is("turn 29", x.judge(0), 100 + 60);
        x.done(0);
        DUE.is("turn 29 was done", x.best(), -4);
        DUE.is("turn 29 was done", x.judge(0), VOID);
        DUE.is("ways stay", x.way(0, 0, 0), 2);
    }
}

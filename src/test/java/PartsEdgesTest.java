/** What is of one GAME, PIECE, pair or row of ways is none of another, in whichever sequence they were told. */
public final class PartsEdgesTest {
    private static final Due DUE = new Due("PartsEdgesTest");

    public static void main(String[] args) {
        helpWithinAGame();
        doneOfEachGame();
        againOfEachGame();
        likeCellsOfThreeGames();
        wrongOnesInATurn();
        pairsBehindOthers();
        helpersAreHelped();
        oneWayBehindFour();
        DUE.end();
    }

    /** Three games; holder h in game h, with piece 2 h in cell 0 and piece 2 h + 1 in cell 47, and a card sent today. */
    private static PostTurns three() {
        PostTurns x = new PostTurns();
        for (int g = 0; g < 3; g++) x.game(g);
        for (int h = 0; h < 3; h++) x.holder(h, 10 * h);
        for (int h = 0; h < 3; h++) {
            x.piece(h, 0, 3);
            x.piece(h, 47, 2);
        }
        for (int h = 0; h < 3; h++) x.card(h, h, 0);
        return x;
    }

    /** "2 HELP another PIECE of its GAME": told by order(), read() and way(), of each game for each. */
    private static void helpWithinAGame() {
        for (int p = 0; p < 6; p++) {
            for (int helped = 0; helped < 6; helped++) {
                boolean sound = helped != p && helped / 2 == p / 2;
                String run = ": piece " + p + " helps " + helped;
                PostTurns x = three();
                DUE.is("19" + run, x.order(p / 2, p, 2, helped), sound ? 0 : -1);
                DUE.is("29" + run, x.way(p, 2, helped), sound ? 1 : -1);
                x.row(0, 0, 4);
                x.put(0, 0, p);
                x.put(0, 1, 2);
                x.put(0, 2, helped);
                DUE.is("22" + run, x.read(p / 2, 0, 0, 1), 1);
                DUE.is("22" + run, x.ofOrder(x.count(8) - 1, 0), sound ? 1 : 6);
            }
        }
    }

    private static void moveAll(PostTurns x) {
        for (int p = 0; p < 6; p++) x.order(p / 2, p, 1, p % 2 == 0 ? 1 : 46);
    }

    /** Promise 24: a TURN of one of three games moves its pieces and pays its holders alone. */
    private static void doneOfEachGame() {
        for (int game = 0; game < 3; game++) {
            PostTurns x = three();
            moveAll(x);
            x.days(7);
            DUE.is("24: game " + game, x.done(game), 1);
            for (int p = 0; p < 6; p++) {
                boolean went = p / 2 == game;
                int from = p % 2 == 0 ? 0 : 47, to = p % 2 == 0 ? 1 : 46;
                DUE.is("9: piece " + p + " of a turn of " + game, x.ofPiece(p, 1), went ? to : from);
                DUE.is("9: led", x.ofPiece(p, 4), went ? p : -1);
                DUE.is("26: behind turn 0", x.was(p, 0), went ? to : -1);
            }
            for (int h = 0; h < 3; h++) {
                DUE.is("10: coins of " + h + " behind a turn of " + game, x.ofHolder(h, 1), 10 * h + (h == game ? 2 : 0));
                DUE.is("11: turn of " + h, x.ofGame(h, 0), h == game ? 1 : 0);
                DUE.is("43: check of " + h, x.check(h), 0);
            }
        }
    }

    /** Promise 25: AGAIN of one of three games counts and moves its pieces, and changes its coins alone. */
    private static void againOfEachGame() {
        for (int game = 0; game < 3; game++) {
            PostTurns x = three();
            moveAll(x);
            x.days(7);
            for (int g = 0; g < 3; g++) x.done(g);
            for (int g = 0; g < 3; g++) {
                Due.rule(x, 10 * g, 0, "0");
                Due.rule(x, 10 * g + 4, 0, "5");
            }
            DUE.is("25: both of game " + game, x.again(game, 0), 2);
            for (int p = 0; p < 6; p++) {
                int from = p % 2 == 0 ? 0 : 47, to = p % 2 == 0 ? 1 : 46;
                DUE.is("9: piece " + p + ", again of " + game, x.ofPiece(p, 1), p / 2 == game ? from : to);
                DUE.is("9: led", x.ofPiece(p, 4), p / 2 == game ? -1 : p);
            }
            for (int h = 0; h < 3; h++) {
                DUE.is("10: coins of " + h + ", again of " + game, x.ofHolder(h, 1), 10 * h + 2 - (h == game ? 5 : 0));
                DUE.is("10: owed by " + h, x.ofHolder(h, 5), h == game ? 5 : 0);
                DUE.is("11: times of " + h, x.ofGame(h, 3), h == game ? 2 : 1);
                DUE.is("43: check of " + h, x.check(h), 0);
            }
        }
    }

    /** Promise 43: "1 two PIECES in one CELL": of like number in each of three games they are three CELLS. */
    private static void likeCellsOfThreeGames() {
        PostTurns x = three();
        for (int g = 0; g < 3; g++) DUE.is("43: game " + g, x.check(g), 0);
        x.cell(12, 1, 1);
        x.piece(1, 12, 1);
        for (int g = 0; g < 3; g++) DUE.is("43: a wall of another game", x.check(g), 0);
    }

    /** "WRONG (..; it counts for nothing)": in a TURN that is done with such ones first, between and last. */
    private static void wrongOnesInATurn() {
        PostTurns x = three();
        x.row(0, 0, 1);
        x.read(0, 0, 0, 1);
        x.order(0, 0, 1, 6);
        x.read(0, 0, 0, 1);
        x.order(1, 2, 1, 1);
        x.read(0, 0, 0, 1);
        x.days(7);
        for (int g = 0; g < 3; g++) DUE.is("24: done", x.done(g), 1);
        int[] led = {1, -1, 3, -1, -1, -1};
        int[] cell = {6, 47, 1, 47, 0, 47};
        for (int p = 0; p < 6; p++) {
            DUE.is("9: led", x.ofPiece(p, 4), led[p]);
            DUE.is("9: cell", x.ofPiece(p, 1), cell[p]);
        }
        x.way(1, 0, 0);
        DUE.is("30: best", x.best(), 0 + 2 + 2);
        DUE.is("25: again", x.again(0, 0), 0);
    }

    /** "2 two FIRST ones that go to one another's CELLS": be pieces that stay, fail or follow told ahead of them. */
    private static void pairsBehindOthers() {
        PostTurns x = new PostTurns();
        x.game(0);
        x.holder(0, 0);
        x.holder(0, 0);
        int[] holder = {0, 0, 1, 0, 1, 0, 1};
        int[] at = {30, 0, 2, 12, 13, 40, 41};
        int[] force = {1, 2, 2, 3, 1, 2, 2};
        for (int p = 0; p < 7; p++) x.piece(holder[p], at[p], force[p]);
        x.card(0, 0, 0);
        x.card(1, 1, 0);
        x.order(0, 1, 1, 1);
        x.order(1, 2, 1, 1);
        x.order(0, 3, 1, 13);
        x.order(1, 4, 1, 19);
        x.order(0, 5, 1, 41);
        x.order(1, 6, 1, 40);
        x.days(7);
        x.done(0);
        int[] failed = {0, 1, 1, 0, 0, 2, 2};
        int[] cell = {30, 0, 2, 13, 19, 40, 41};
        for (int p = 0; p < 7; p++) {
            DUE.is("9: how piece " + p + " failed", x.ofPiece(p, 5), failed[p]);
            DUE.is("9: where piece " + p + " is", x.ofPiece(p, 1), cell[p]);
        }
    }

    /** "HOLD of one that does not MOVE: likewise": of one that HELPS another, too, by those BESIDE its own CELL. */
    private static void helpersAreHelped() {
        for (int comes = 1; comes <= 9; comes++) {
            PostTurns x = new PostTurns();
            x.game(0);
            x.holder(0, 0);
            x.holder(0, 0);
            x.holder(0, 0);
            x.piece(0, 14, 2);
            x.piece(0, 15, 3);
            x.piece(0, 8, 1);
            x.piece(1, 20, comes);
            x.card(0, 0, 0);
            x.card(1, 1, 0);
            x.order(0, 0, 2, 1);
            x.order(0, 2, 2, 0);
            x.order(1, 3, 1, 14);
            x.days(7);
            x.done(0);
            boolean goes = comes > 3;
            DUE.is("24: a helper holds by 2 + 1 against " + comes, x.ofPiece(0, 3), goes ? 1 : 0);
            DUE.is("24: the one that comes", x.ofPiece(3, 1), goes ? 14 : 20);
            DUE.is("24: how it failed", x.ofPiece(3, 5), goes ? 0 : 3);
        }
    }

    /** Each BEST ROW has its own ways: one with a single way behind one with four, told first or next. */
    private static void oneWayBehindFour() {
        PostTurns x = three();
        x.cell(6, 0, 9);
        for (int w = 0; w < 3; w++) x.way(0, 0, 0);
        x.way(0, 1, 6);
        x.cell(41, 0, 9);
        for (int w = 0; w < 3; w++) x.way(1, 0, 0);
        x.way(1, 1, 41);
        DUE.is("30: best", x.best(), 18);
        DUE.is("31: the last ways", x.bestWay(0) * 10 + x.bestWay(1), 33);
        x.way(1, 0, 0);
        x.way(0, 1, 6);
        DUE.is("30: best of a row of single ways", x.best(), 10);
        DUE.is("31: the only ways", x.bestWay(0) * 10 + x.bestWay(1), 0);
        x.way(0, 1, 6);
        x.way(1, 0, 0);
        x.way(1, 1, 41);
        DUE.is("30: best", x.best(), 18);
        DUE.is("31: the only way and the second", x.bestWay(0) * 10 + x.bestWay(1), 1);
    }
}

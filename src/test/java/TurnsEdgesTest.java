/** The edges of promises 24 to 26 and of sections 4 and 6, sentence by sentence: how turns are done, and done again. */
public final class TurnsEdgesTest {
    private static final Due DUE = new Due("TurnsEdgesTest");
    private static final int MIN = Integer.MIN_VALUE, MAX = Integer.MAX_VALUE;

    public static void main(String[] args) {
        doneRefusals();
        againRefusals();
        wasRefusals();
        thirtyTurns();
        gamesPart();
        piecesOfOtherGames();
        holdNotLess();
        besideTheCell();
        helpOfTheFirstPiece();
        cutByTheFirstPiece();
        cutInItsTurnAlone();
        notCut();
        likeTies();
        farTies();
        oneAlone();
        twoGreatestAlike();
        pairs();
        pairsWithHelp();
        aRowOfForty();
        aRowThatIsStopped();
        aRingOfTwelve();
        heldByForceAlone();
        theCellLeft();
        goneOnesAreLedByNone();
        failsAreOfTheLatestTurn();
        feesOfATurn();
        ofOneThatDropped();
        againFromEachTurn();
        againCountsNone();
        againKeepsTheRest();
        againByLaterRules();
        owedByTheLatestDoing();
        DUE.end();
    }

    /** A game with pieces told by threes of holder, cell, force, and a card of each holder sent today. */
    private static PostTurns made(int holders, int... threes) {
        PostTurns x = new PostTurns();
        x.game(123);
        for (int h = 0; h < holders; h++) x.holder(0, 0);
        for (int i = 0; i < threes.length; i += 3) DUE.is("8: piece", x.piece(threes[i], threes[i + 1], threes[i + 2]), i / 3);
        cards(x, holders);
        return x;
    }

    private static void cards(PostTurns x, int holders) {
        for (int h = 0; h < holders; h++) x.card(h, h, 0);
    }

    /** Orders by threes of piece, what, at, each on the latest card of its holder. */
    private static void tell(PostTurns x, int... threes) {
        for (int i = 0; i < threes.length; i += 3) {
            int card = x.count(7) - 1;
            while (card >= 0 && x.ofCard(card, 0) != x.ofPiece(threes[i], 0)) card--;
            DUE.is("19: order", x.order(card, threes[i], threes[i + 1], threes[i + 2]), x.count(8) - 1);
        }
    }

    private static void next(PostTurns x) {
        x.days(7);
        x.done(0);
        DUE.is("43: check", x.check(0), 0);
    }

    /** Where each piece is (-2: gone), and how its move failed. */
    private static void stands(String run, PostTurns x, int... cellsAndFails) {
        int t = x.ofGame(0, 0) - 1;
        for (int i = 0; i < cellsAndFails.length; i += 2) {
            DUE.is(run + ": where piece " + i / 2 + " is", x.was(i / 2, t), cellsAndFails[i]);
            DUE.is(run + ": how piece " + i / 2 + " failed", x.ofPiece(i / 2, 5), cellsAndFails[i + 1]);
        }
    }

    /** Promise 24: "BAD; FULL: TURN 29 was done; NOT: it is not DUE yet". */
    private static void doneRefusals() {
        PostTurns x = new PostTurns();
        int[] none = {-1, 0, 3, MIN, MAX};
        for (int game : none) DUE.is("24: game " + game, x.done(game), -1);
        x.game(0);
        DUE.is("24: game 1", x.done(1), -1);
        DUE.is("24: on day 0", x.done(0), -2);
        x.days(6);
        DUE.is("24: on day 6", x.done(0), -2);
        DUE.is("11: none was done", x.ofGame(0, 3), 0);
        x.days(1);
        DUE.is("24: on day 7", x.done(0), 1);
        DUE.is("24: once a day", x.done(0), -2);
        DUE.is("11: one was done", x.ofGame(0, 3), 1);
    }

    /** Promise 25: "BAD; NOT: it was not done". */
    private static void againRefusals() {
        PostTurns x = made(1, 0, 0, 1);
        int[] none = {-1, 1, 3, MIN, MAX};
        for (int game : none) DUE.is("25: game " + game, x.again(game, 0), -1);
        DUE.is("25: none was done", x.again(0, 0), -2);
        next(x);
        next(x);
        int[] badTurns = {-1, 30, 31, MIN, MAX};
        for (int t : badTurns) DUE.is("25: from turn " + t, x.again(0, t), -1);
        for (int t = 2; t < 30; t++) DUE.is("25: from turn " + t, x.again(0, t), -2);
        DUE.is("25: BAD ahead of NOT", x.again(1, 2), -1);
        DUE.is("11: two were done", x.ofGame(0, 3), 2);
        DUE.is("25: from turn 1", x.again(0, 1), 0);
        DUE.is("11: one again", x.ofGame(0, 3), 3);
        DUE.is("25: from turn 0", x.again(0, 0), 0);
        DUE.is("11: two again", x.ofGame(0, 3), 5);
    }

    /** Promise 26: "behind a TURN that was done (0 ..); NOT: it is GONE, .. BAD". */
    private static void wasRefusals() {
        PostTurns x = made(2, 0, 1, 3, 1, 0, 2);
        for (int t = -1; t <= 30; t++) DUE.is("26: none was done", x.was(0, t), -1);
        tell(x, 0, 1, 0);
        next(x);
        next(x);
        int[] none = {-1, 2, 39, 40, MIN, MAX};
        for (int p : none) DUE.is("26: piece " + p, x.was(p, 0), -1);
        int[] badTurns = {-1, 2, 29, 30, MIN, MAX};
        for (int t : badTurns) {
            DUE.is("26: turn " + t, x.was(0, t), -1);
            DUE.is("26: turn " + t + " of one gone", x.was(1, t), -1);
        }
        for (int t = 0; t < 2; t++) {
            DUE.is("26: in cell 0", x.was(0, t), 0);
            DUE.is("26: gone", x.was(1, t), -2);
        }
        DUE.is("9: where it was", x.ofPiece(1, 1), 0);
    }

    /** "30: all of 0 to 29 are done"; promise 24: FULL is ahead of NOT; promise 25: from each turn, the last too. */
    private static void thirtyTurns() {
        PostTurns x = made(1, 0, 0, 1);
        for (int i = 0; i < 3; i++) x.days(60);
        x.days(29);
        for (int t = 0; t < 29; t++) DUE.is("24: turn then", x.done(0), t + 1);
        DUE.is("24: a day ahead of the last", x.done(0), -2);
        x.days(1);
        DUE.is("24: the last", x.done(0), 30);
        DUE.is("24: FULL, though not due", x.done(0), -3);
        x.days(7);
        DUE.is("24: FULL", x.done(0), -3);
        DUE.is("11: turn 30", x.ofGame(0, 0), 30);
        DUE.is("25: from the last turn", x.again(0, 29), 0);
        DUE.is("25: no turn 30", x.again(0, 30), -1);
        DUE.is("26: behind the last turn", x.was(0, 29), 0);
        DUE.is("26: no turn 30", x.was(0, 30), -1);
        DUE.is("25: from the first", x.again(0, 0), 0);
        DUE.is("11: times", x.ofGame(0, 3), 61);
        DUE.is("10: coins", x.ofHolder(0, 1), 30);
        DUE.is("24: FULL", x.done(0), -3);
        DUE.is("43: check", x.check(0), 0);
    }

    /** A turn of one game is none of another: its pieces, coins, what led them stay. */
    private static void gamesPart() {
        PostTurns x = made(2, 0, 0, 3, 1, 1, 2);
        x.game(5);
        x.holder(1, 7);
        x.piece(2, 0, 1);
        x.piece(2, 2, 1);
        x.card(2, 2, 0);
        tell(x, 0, 1, 1, 2, 1, 1, 3, 1, 1);
        x.days(7);
        DUE.is("24: the other game", x.done(1), 1);
        DUE.is("9: both failed", x.ofPiece(2, 5) * 10 + x.ofPiece(3, 5), 11);
        DUE.is("9: this game's are not led yet", x.ofPiece(0, 4) * 10 + x.ofPiece(1, 3), -10);
        DUE.is("26: nor was its turn done", x.was(0, 0), -1);
        DUE.is("24: this game", x.done(0), 1);
        stands("24: this game", x, 1, 0, -2, 0, 0, 1, 2, 1);
        DUE.is("9: the other's are led as they were", x.ofPiece(2, 4) * 10 + x.ofPiece(3, 4), 12);
        DUE.is("10: coins of this game", x.ofHolder(0, 1) * 10 + x.ofHolder(1, 1), 10);
        DUE.is("10: coins of the other game", x.ofHolder(2, 1), 9);
        DUE.is("25: this game again", x.again(0, 0), 0);
        DUE.is("10: coins of the other game", x.ofHolder(2, 1), 9);
        DUE.is("11: its times", x.ofGame(1, 3), 1);
    }

    /** Pieces of another game neither hold a CELL of this one, nor go to it, nor cut a HELP in it. */
    private static void piecesOfOtherGames() {
        for (int told = 0; told < 2; told++) {
            PostTurns x = new PostTurns();
            x.game(5);
            x.game(6);
            int mine = told, other = 1 - told;
            x.holder(mine, 0);
            x.holder(mine, 0);
            x.holder(other, 0);
            x.piece(2, 1, 9);
            x.piece(0, 0, 2);
            x.piece(0, 6, 3);
            x.piece(1, 7, 4);
            x.piece(2, 12, 9);
            x.piece(2, 8, 9);
            cards(x, 3);
            tell(x, 1, 1, 1, 2, 2, 1, 4, 1, 6, 5, 1, 7);
            x.days(7);
            DUE.is("24: not held by the other game's", x.done(mine), 1);
            DUE.is("26: it went", x.was(1, 0), 1);
            DUE.is("9: it did not fail", x.ofPiece(1, 5), 0);
            DUE.is("9: the other's is where it was", x.ofPiece(0, 1) * 10 + x.ofPiece(0, 3), 10);
            cards(x, 3);
            tell(x, 1, 1, 7, 2, 2, 1);
            x.days(7);
            DUE.is("24: not cut by the other game's", x.done(mine), 2);
            DUE.is("26: 2 + 3 against 4", x.was(1, 1), 7);
            DUE.is("26: gone", x.was(3, 1), -2);
            DUE.is("24: the other game", x.done(other), 1);
            DUE.is("26: nor held by this game's", x.was(4, 0), 6);
            DUE.is("26: nor first by this game's", x.was(5, 0), 7);
        }
    }

    /** "3 .. it FAILS, if .. its HOLD is not less than the STRENGTH of the one that comes". */
    private static void holdNotLess() {
        for (int comes = 1; comes <= 9; comes++) {
            for (int holds = 1; holds <= 9; holds++) {
                PostTurns x = made(2, 0, 0, comes, 1, 1, holds);
                tell(x, 0, 1, 1);
                next(x);
                boolean goes = holds < comes;
                stands("24: " + comes + " against " + holds, x, goes ? 1 : 0, goes ? 0 : 3, goes ? -2 : 1, 0);
            }
        }
    }

    /** HELP counts, if "BESIDE the CELL where that goes (or stays ..) the helper stands": not in it, not two away. */
    private static void besideTheCell() {
        for (int cell = 0; cell < 48; cell++) {
            if (cell == 14 || cell == 15) continue;
            int away = Math.abs(cell / 6 - 2) + Math.abs(cell % 6 - 3), near = Math.abs(cell / 6 - 2) + Math.abs(cell % 6 - 2);
            PostTurns x = made(3, 0, 14, 2, 1, 15, 2, 2, cell, 1);
            tell(x, 0, 1, 15, 2, 2, 0);
            next(x);
            stands("24: helper of a move in " + cell, x, away == 1 ? 15 : 14, away == 1 ? 0 : 3, away == 1 ? -2 : 15, 0, cell, 0);
            x = made(3, 0, 14, 3, 1, 15, 2, 2, cell, 1);
            tell(x, 0, 1, 15, 2, 2, 1);
            next(x);
            stands("24: helper of a hold in " + cell, x, away == 1 ? 14 : 15, away == 1 ? 3 : 0, away == 1 ? 15 : -2, 0, cell, 0);
            x = made(3, 0, 14, 2, 1, 15, 3, 2, cell, 1);
            tell(x, 1, 1, 14, 2, 2, 0);
            next(x);
            stands("24: helper of one that stays in " + cell, x, near == 1 ? 14 : -2, 0, near == 1 ? 15 : 14, near == 1 ? 3 : 0);
        }
        PostTurns x = made(2, 0, 14, 3, 1, 15, 3);
        tell(x, 0, 1, 15, 1, 2, 0);
        next(x);
        stands("24: in the cell itself it is not beside", x, 14, 3, 15, 0);
    }

    /** "FORCES of all that HELP it", be the helper piece 0, and of several all. */
    private static void helpOfTheFirstPiece() {
        PostTurns x = made(2, 0, 2, 1, 0, 0, 1, 1, 1, 1);
        tell(x, 0, 2, 1, 1, 1, 1);
        next(x);
        stands("24: piece 0 helps", x, 2, 0, 1, 0, -2, 0);
        x = made(4, 0, 9, 1, 0, 13, 2, 1, 15, 4, 2, 20, 8, 3, 14, 9, 3, 27, 6);
        tell(x, 0, 2, 1, 1, 1, 14, 2, 2, 1, 3, 2, 1);
        next(x);
        stands("24: two beside and one away: 2 + 4 + 8 against 9", x, 9, 0, 14, 0, 15, 0, 20, 0, -2, 0, 27, 0);
        x = made(4, 0, 8, 1, 0, 13, 2, 1, 15, 4, 2, 20, 2, 3, 14, 9);
        tell(x, 0, 2, 1, 1, 1, 14, 2, 2, 1, 3, 2, 1);
        next(x);
        stands("24: three beside: 2 + 1 + 4 + 2 against 9", x, 8, 0, 13, 3, 15, 0, 20, 0, 14, 0);
        x = made(4, 0, 8, 2, 0, 13, 2, 1, 15, 4, 2, 20, 2, 3, 14, 9);
        tell(x, 0, 2, 1, 1, 1, 14, 2, 2, 1, 3, 2, 1);
        next(x);
        stands("24: three beside: 2 + 2 + 4 + 2 against 9", x, 8, 0, 14, 0, 15, 0, 20, 0, -2, 0);
    }

    /** "no PIECE of another HOLDER .. MOVES to the helper's CELL", be it piece 0. */
    private static void cutByTheFirstPiece() {
        PostTurns x = made(3, 2, 3, 1, 0, 2, 5, 0, 0, 1, 1, 1, 2);
        tell(x, 1, 2, 2, 2, 1, 1);
        next(x);
        stands("24: not cut", x, 3, 0, 2, 0, 1, 0, -2, 0);
        x = made(3, 2, 3, 1, 0, 2, 5, 0, 0, 1, 1, 1, 2);
        tell(x, 0, 1, 2, 1, 2, 2, 2, 1, 1);
        next(x);
        stands("24: cut by piece 0", x, 3, 3, 2, 0, 0, 3, 1, 0);
        x = made(3, 0, 0, 5, 2, 6, 1, 0, 2, 1, 1, 1, 2);
        tell(x, 0, 2, 2, 1, 1, 0, 2, 1, 1);
        next(x);
        stands("24: piece 0 in cell 0 is cut", x, 0, 0, 6, 3, 2, 3, 1, 0);
    }

    /** One that was CUT in one TURN helps in the next. */
    private static void cutInItsTurnAlone() {
        PostTurns x = made(3, 2, 3, 1, 0, 2, 5, 0, 0, 1, 1, 1, 2);
        tell(x, 0, 1, 2, 1, 2, 2, 2, 1, 1);
        next(x);
        cards(x, 3);
        tell(x, 1, 2, 2, 2, 1, 1);
        next(x);
        stands("24: not cut any more", x, 3, 0, 2, 0, 1, 0, -2, 0);
        x = made(3, 2, 3, 1, 0, 2, 5, 0, 0, 1, 1, 1, 2);
        x.cell(2, 0, 0);
        tell(x, 1, 2, 2, 2, 1, 1);
        x.way(0, 1, 2);
        x.way(0, 0, 0);
        DUE.is("32: it cuts", x.judge(0), 1);
        DUE.is("32: it does not", x.judge(1), 1);
        next(x);
        stands("24: judged alone it cuts nothing", x, 3, 0, 2, 0, 1, 0, -2, 0);
    }

    /** CUT is a helper just by one that MOVES to its CELL: not by one that helps, stays or goes elsewhere beside it. */
    private static void notCut() {
        int[][] orders = {{0, 0}, {2, 1}, {1, 9}, {1, 3}};
        for (int[] order : orders) {
            PostTurns x = made(3, 2, 8, 1, 0, 2, 5, 0, 0, 1, 1, 1, 2);
            tell(x, 0, order[0], order[1], 1, 2, 2, 2, 1, 1);
            next(x);
            stands("24: " + order[0] + " " + order[1] + " cuts not", x, order[1] == 9 ? 9 : 8, 0, 2, 0, 1, 0, -2, 0);
        }
        PostTurns x = made(3, 2, 8, 1, 0, 2, 5, 0, 0, 1, 1, 1, 2);
        tell(x, 0, 1, 2, 1, 2, 2, 2, 1, 1);
        Due.rule(x, 0, 0, "p");
        next(x);
        stands("24: one that may not move cuts not", x, 8, 0, 2, 0, 1, 0, -2, 0);
    }

    /** "of like ones the one with the greatest TIE, is FIRST; the others FAIL (all, if the two greatest are like in both)". */
    private static void likeTies() {
        String[] text = {"0", "p", "-p", "p=1", "p<2", "p%2", "!p", "f", "1/0"};
        int[] winner = {-1, 2, 0, 1, -1, 1, 0, -1, -1};
        int[] from = {0, 7, 2};
        for (int i = 0; i < text.length; i++) {
            PostTurns x = made(3, 0, 0, 2, 1, 7, 2, 2, 2, 2);
            Due.rule(x, 1, 0, text[i]);
            tell(x, 0, 1, 1, 1, 1, 1, 2, 1, 1);
            next(x);
            for (int p = 0; p < 3; p++) {
                DUE.is("24: by " + text[i], x.was(p, 0), p == winner[i] ? 1 : from[p]);
                DUE.is("24: by " + text[i], x.ofPiece(p, 5), p == winner[i] ? 0 : 1);
            }
        }
    }

    /** TIES are ints of any size: the least is less than the greatest. */
    private static void farTies() {
        String least = "2048*1024*1024";
        String[] text = {"p?" + least + ";" + least + "-1", "p?" + least + "-1;" + least, "p?" + least + ";1", "p?" + least + ";-1",
            "p?0;-1", "p?-2;-1", "p?" + least + ";" + least + "+4096*1024*1024"};
        int[] winner = {0, 1, 0, 0, 1, 0, -1};
        for (int i = 0; i < text.length; i++) {
            PostTurns x = made(2, 0, 0, 2, 1, 2, 2);
            Due.rule(x, 1, 0, text[i]);
            tell(x, 0, 1, 1, 1, 1, 1);
            next(x);
            stands("24: by " + text[i], x, winner[i] == 0 ? 1 : 0, winner[i] == 0 ? 0 : 1, winner[i] == 1 ? 1 : 2,
                winner[i] == 1 ? 0 : 1);
        }
    }

    /** One that goes alone to a CELL is FIRST there, by any TIE. */
    private static void oneAlone() {
        PostTurns x = made(1, 0, 0, 1);
        Due.rule(x, 1, 0, "-1");
        tell(x, 0, 1, 6);
        next(x);
        stands("24: alone", x, 6, 0);
    }

    /** "(all, if the two greatest are like in both)": in whichever sequence they stand, and a lesser third or fourth. */
    private static void twoGreatestAlike() {
        int[] cells = {8, 13, 15, 20};
        for (int run = 0; run < 256; run++) {
            int[] force = {1 + run % 4, 1 + run / 4 % 4, 1 + run / 16 % 4, 1 + run / 64};
            int most = 0, alike = 0, first = -1;
            for (int p = 0; p < 4; p++) {
                if (force[p] > most) {
                    most = force[p];
                    alike = 0;
                    first = p;
                }
                if (force[p] == most) alike++;
            }
            PostTurns x = made(4, 0, 8, force[0], 1, 13, force[1], 2, 15, force[2], 3, 20, force[3]);
            tell(x, 0, 1, 14, 1, 1, 14, 2, 1, 14, 3, 1, 14);
            next(x);
            for (int p = 0; p < 4; p++) {
                boolean goes = alike == 1 && p == first;
                DUE.is("24: of forces " + run, x.was(p, 0), goes ? 14 : cells[p]);
                DUE.is("24: of forces " + run, x.ofPiece(p, 5), goes ? 0 : 1);
            }
        }
    }

    /** "2 two FIRST ones that go to one another's CELLS: the one with less STRENGTH FAILS (both, if like)". */
    private static void pairs() {
        for (int a = 1; a <= 3; a++) {
            for (int b = 1; b <= 3; b++) {
                PostTurns x = made(2, 0, 0, a, 1, 6, b);
                tell(x, 0, 1, 6, 1, 1, 0);
                next(x);
                stands("24: a pair of " + a + " and " + b, x, a > b ? 6 : a < b ? -2 : 0, a > b ? 0 : 2,
                    b > a ? 0 : b < a ? -2 : 6, b > a ? 0 : 2);
                x = made(1, 0, 0, a, 0, 6, b);
                tell(x, 0, 1, 6, 1, 1, 0);
                next(x);
                stands("24: a pair of one holder", x, 0, a > b ? 3 : 2, 6, b > a ? 3 : 2);
            }
        }
    }

    /** A pair is judged by STRENGTHS with help; TIE is of no use there; the other holds by its force alone. */
    private static void pairsWithHelp() {
        PostTurns x = made(2, 0, 0, 2, 1, 6, 2, 0, 7, 1);
        tell(x, 0, 1, 6, 1, 1, 0);
        Due.rule(x, 1, 0, "p");
        next(x);
        stands("24: like, whatever their ties", x, 0, 2, 6, 2, 7, 0);
        x = made(2, 0, 0, 2, 1, 6, 2, 0, 7, 1);
        tell(x, 0, 1, 6, 1, 1, 0, 2, 2, 0);
        next(x);
        stands("24: 3 against 2", x, 6, 0, -2, 2, 7, 0);
        x = made(2, 0, 0, 2, 1, 6, 2, 0, 7, 1, 1, 1, 1);
        tell(x, 0, 1, 6, 1, 1, 0, 2, 2, 0, 3, 2, 1);
        next(x);
        stands("24: 3 against 3", x, 0, 2, 6, 2, 7, 0, 1, 0);
        x = made(2, 0, 0, 2, 1, 6, 3, 0, 7, 9);
        tell(x, 0, 1, 6, 1, 1, 0, 2, 2, 0);
        x.turn(2, 40, 0);
        next(x);
        stands("24: an if that does not hold helps not", x, -2, 2, 0, 0, 7, 0);
    }

    /** The i-th cell of a way over the board on which each is beside the next. */
    private static int snake(int i) {
        return i / 6 % 2 == 0 ? i : i / 6 * 6 + 5 - i % 6;
    }

    private static PostTurns row(int pieces, int step) {
        PostTurns x = new PostTurns();
        x.game(0);
        x.holder(0, 0);
        x.holder(0, 0);
        for (int k = 0; k < pieces; k++) {
            int i = k * step % pieces;
            DUE.is("8: piece", x.piece(i % 2, snake(i), 1), k);
        }
        cards(x, 2);
        for (int k = 0; k < pieces; k++) {
            int i = k * step % pieces;
            DUE.is("19: order", x.order(i % 2, k, 1, snake(i + 1)), k);
        }
        return x;
    }

    /** "4 all that have not FAILED go, at once": forty in a row, told in sequences of three kinds. */
    private static void aRowOfForty() {
        for (int step : new int[] {1, 39, 7}) {
            PostTurns x = row(40, step);
            x.days(7);
            x.done(0);
            for (int k = 0; k < 40; k++) {
                DUE.is("24: all go", x.was(k, 0), snake(k * step % 40 + 1));
                DUE.is("24: none fails", x.ofPiece(k, 5), 0);
            }
            DUE.is("43: check", x.check(0), 0);
        }
    }

    /** "3 again and again, till nothing changes": the last of thirty-nine is stopped by one that stays, so are all. */
    private static void aRowThatIsStopped() {
        for (int step : new int[] {1, 38, 7}) {
            PostTurns x = row(39, step);
            x.piece(0, snake(39), 1);
            x.days(7);
            x.done(0);
            for (int k = 0; k < 39; k++) {
                DUE.is("24: none goes", x.was(k, 0), snake(k * step % 39));
                DUE.is("24: all fail", x.ofPiece(k, 5), 3);
            }
            DUE.is("24: it stays", x.was(39, 0), snake(39));
            DUE.is("43: check", x.check(0), 0);
        }
    }

    /** A ring of more than two goes on, if none of it is stopped. */
    private static void aRingOfTwelve() {
        int[] ring = {0, 1, 2, 3, 9, 15, 21, 20, 19, 18, 12, 6};
        for (int stopped = 0; stopped < 2; stopped++) {
            PostTurns x = made(3);
            for (int i = 0; i < 12; i++) x.piece(i % 2, ring[i], 2);
            x.piece(2, 4, 2);
            for (int i = 0; i < 12; i++) tell(x, i, 1, ring[(i + 1) % 12]);
            if (stopped == 1) tell(x, 12, 1, 3);
            next(x);
            for (int i = 0; i < 12; i++) {
                DUE.is("24: a ring", x.was(i, 0), stopped == 1 ? ring[i] : ring[(i + 1) % 12]);
                DUE.is("24: a ring", x.ofPiece(i, 5), stopped == 0 ? 0 : i == 2 ? 1 : 3);
            }
        }
    }

    /** "HOLD .. of one whose MOVE FAILS: its FORCE": what helped it (where it goes) is not in it. */
    private static void heldByForceAlone() {
        for (int comes = 1; comes <= 5; comes++) {
            PostTurns x = made(3, 0, 7, 2, 0, 1, 3, 1, 8, 9, 2, 6, comes);
            tell(x, 0, 1, 8, 1, 2, 0, 2, 1, 8, 3, 1, 7);
            x.turn(2, 47, 1);
            next(x);
            boolean goes = comes > 2;
            DUE.is("24: one whose move failed holds by 2 against " + comes, x.was(0, 0), goes ? -2 : 7);
            DUE.is("24: the one that comes", x.was(3, 0), goes ? 7 : 6);
            DUE.is("24: how it failed", x.ofPiece(3, 5), goes ? 0 : 3);
        }
    }

    /** A CELL that was left in one TURN holds nobody in the next, cell 0 and cell 47 too. */
    private static void theCellLeft() {
        int[][] cells = {{0, 6, 1}, {47, 41, 46}};
        for (int[] c : cells) {
            PostTurns x = made(2, 0, c[0], 9, 1, c[2], 1);
            tell(x, 0, 1, c[1]);
            next(x);
            cards(x, 2);
            tell(x, 1, 1, c[0]);
            next(x);
            stands("24: into the cell left", x, c[1], 0, c[0], 0);
            cards(x, 2);
            tell(x, 0, 1, c[0]);
            next(x);
            stands("24: and that one is gone", x, c[0], 0, -2, 0);
        }
    }

    /** "LED: of the latest TURN done ..: by which ORDER a PIECE was (-1: none), whether its MOVE FAILED (.. 0 not)". */
    private static void goneOnesAreLedByNone() {
        PostTurns x = made(2, 0, 0, 5, 1, 1, 2, 1, 2, 9);
        tell(x, 0, 1, 1, 1, 1, 2);
        x.turn(3, 29, 0);
        next(x);
        stands("24: its move failed, and it is gone", x, 1, 0, -2, 3, 2, 0);
        DUE.is("9: led by", x.ofPiece(1, 4), 1);
        next(x);
        stands("24: a turn on", x, 1, 0, -2, 0, 2, 0);
        DUE.is("9: led by none", x.ofPiece(1, 4), -1);
        DUE.is("9: led by none", x.ofPiece(0, 4), -1);
        DUE.is("23: by none", x.orderOf(1), -1);
        x.again(0, 0);
        DUE.is("25: led by none in the latest turn", x.ofPiece(1, 4) * 10 + x.ofPiece(1, 5), -10);
    }

    /** How a MOVE failed is told of the latest TURN alone: 0 of one that stays, helps or goes. */
    private static void failsAreOfTheLatestTurn() {
        PostTurns x = made(2, 0, 0, 2, 1, 1, 2);
        int[][] orders = {{1, 1, 3}, {0, 0, 0}, {1, 1, 3}, {2, 1, 0}, {1, 1, 3}, {1, 6, 0}};
        for (int[] order : orders) {
            tell(x, 0, order[0], order[1]);
            next(x);
            DUE.is("9: how it failed", x.ofPiece(0, 5), order[2]);
            DUE.is("9: led", x.ofPiece(0, 4), x.count(8) - 1);
            cards(x, 2);
        }
        next(x);
        DUE.is("9: by none", x.ofPiece(0, 4), -1);
    }

    /** "less FEE (n behind the MOVES, w ahead of this; ..)": of one that has lost all its pieces, too. */
    private static void feesOfATurn() {
        PostTurns x = new PostTurns();
        x.game(0);
        x.holder(0, 20);
        x.holder(0, 30);
        x.holder(0, 40);
        x.cell(1, 0, 9);
        x.piece(0, 0, 3);
        x.piece(1, 1, 2);
        Due.rule(x, 4, 0, "1000*h+100*n+w");
        cards(x, 3);
        x.order(0, 0, 1, 1);
        x.days(7);
        x.done(0);
        DUE.is("10: one piece in 9", x.ofHolder(0, 1), 20 + 9 - 120);
        DUE.is("10: it lost its only piece", x.ofHolder(1, 1), 30 - 1030);
        DUE.is("10: one that never had any", x.ofHolder(2, 1), 40 - 2040);
        DUE.is("10: owed", x.ofHolder(1, 5), 1030);
        Due.rule(x, 4, 0, "w");
        x.days(7);
        x.done(0);
        DUE.is("10: w below 0: no fee", x.ofHolder(1, 1), 30 - 1030);
        DUE.is("10: w below 0: no fee", x.ofHolder(0, 1), 20 + 9 - 120 + 9);
        DUE.is("43: check", x.check(0), 0);
    }

    /** "each HOLDER that has not DROPPED has COINS more .., less FEE": not in the TURN in which it dropped, nor behind it. */
    private static void ofOneThatDropped() {
        PostTurns x = made(2, 0, 0, 1, 1, 47, 1);
        Due.rule(x, 4, 0, "3");
        for (int t = 0; t < 4; t++) {
            if (t == 2) x.drops(0, 1);
            next(x);
            DUE.is("10: coins", x.ofHolder(0, 1), t < 2 ? -2 * (t + 1) : -4);
            DUE.is("10: owed", x.ofHolder(0, 5), t < 2 ? 3 * (t + 1) : 6);
            DUE.is("10: coins of the other", x.ofHolder(1, 1), -2 * (t + 1));
        }
        Due.rule(x, 4, 0, "7");
        x.again(0, 0);
        DUE.is("25: two fees of 7", x.ofHolder(0, 1) * 100 + x.ofHolder(0, 5), -1200 + 14);
        DUE.is("25: four fees of 7", x.ofHolder(1, 1), -24);
        x.again(0, 2);
        DUE.is("25: as they were", x.ofHolder(0, 1), -12);
    }

    /** "the state of the GAME is as behind TURN t - 1 (of t 0: as it was told), and all TURNS from t .. are done again". */
    private static void againFromEachTurn() {
        for (int t = 0; t < 4; t++) {
            PostTurns x = made(1, 0, 0, 1, 0, 47, 1);
            for (int i = 0; i < 4; i++) {
                tell(x, 0, 1, i + 1 == 4 ? 9 : i + 1);
                next(x);
                x.card(0, 0, 0);
            }
            DUE.is("9: where it went", x.ofPiece(0, 1), 9);
            Due.rule(x, 0, 0, "t<" + t);
            DUE.is("25: from turn " + t, x.again(0, t), 1);
            for (int i = 0; i < 4; i++) DUE.is("26: behind turn " + i, x.was(0, i), Math.min(i + 1, t));
            DUE.is("11: the turn stays", x.ofGame(0, 0), 4);
            DUE.is("11: times", x.ofGame(0, 3), 4 + 4 - t);
            DUE.is("10: coins", x.ofHolder(0, 1), 8);
        }
    }

    /** "how many PIECES are elsewhere or GONE (or not) that were not so ahead of it": 0, if all is as it was; all pieces. */
    private static void againCountsNone() {
        PostTurns x = row(40, 1);
        x.days(7);
        x.done(0);
        DUE.is("25: none", x.again(0, 0), 0);
        Due.rule(x, 0, 0, "0");
        DUE.is("25: all forty", x.again(0, 0), 40);
        DUE.is("25: none", x.again(0, 0), 0);
        Due.rule(x, 0, 0, "p=39");
        DUE.is("25: one", x.again(0, 0), 1);
        PostTurns y = new PostTurns();
        y.game(0);
        y.days(7);
        y.done(0);
        DUE.is("25: a game without pieces", y.again(0, 0), 0);
    }

    /** AGAIN is of one GAME: PAID, DROPS, who RUNS it, the DAY, the other GAME stay. */
    private static void againKeepsTheRest() {
        PostTurns x = made(2, 0, 0, 1, 1, 30, 1);
        x.game(9);
        x.holder(1, 5);
        x.piece(2, 0, 1);
        x.days(7);
        x.done(0);
        x.done(1);
        x.pay(0, 50);
        x.runs(1, 0);
        x.drops(1, 0);
        Due.rule(x, 4, 0, "2");
        DUE.is("25: from turn 0", x.again(0, 0), 0);
        DUE.is("10: coins", x.ofHolder(0, 1), -1);
        DUE.is("10: back", x.ofHolder(0, 7), 48);
        DUE.is("10: it dropped behind that turn", x.ofHolder(1, 1), -1);
        DUE.is("10: dropped in turn 1", x.ofHolder(1, 2), 1);
        DUE.is("11: who runs it", x.ofGame(0, 2), 1);
        DUE.is("44: the day", x.count(4), 7);
        DUE.is("10: the other game's coins", x.ofHolder(2, 1), 6);
        DUE.is("11: the other game's times", x.ofGame(1, 3), 1);
    }

    /** "RULES AS KNOWN TODAY": those made behind the turn, and for it or an earlier one alone. */
    private static void againByLaterRules() {
        PostTurns x = made(1, 0, 0, 1);
        tell(x, 0, 1, 1);
        next(x);
        Due.rule(x, 0, 1, "0");
        DUE.is("25: for turn 1, not for 0", x.again(0, 0), 0);
        Due.rule(x, 10, 0, "0");
        x.game(3);
        Due.rule(x, 10, 0, "0");
        DUE.is("25: of another game", x.again(0, 0), 0);
        Due.rule(x, 0, 0, "0");
        DUE.is("25: made today", x.again(0, 0), 1);
        x.days(1);
        Due.rule(x, 0, 0, "1");
        DUE.is("25: made a day on", x.again(0, 0), 1);
        DUE.is("9: where it is", x.ofPiece(0, 1), 1);
    }

    /** "OWED ..: all FEES of TURNS that were done (by the latest doing of each)". */
    private static void owedByTheLatestDoing() {
        PostTurns x = made(1, 0, 0, 1);
        int[] fees = {5, 7, 9};
        for (int fee : fees) {
            Due.rule(x, 4, 0, "" + fee);
            next(x);
        }
        DUE.is("10: each by its own", x.ofHolder(0, 5), 21);
        Due.rule(x, 4, 0, "1");
        DUE.is("10: nothing yet by that", x.ofHolder(0, 5), 21);
        x.again(0, 2);
        DUE.is("10: the last by that", x.ofHolder(0, 5), 13);
        x.again(0, 1);
        DUE.is("10: two by that", x.ofHolder(0, 5), 7);
        x.again(0, 0);
        DUE.is("10: all by that", x.ofHolder(0, 5), 3);
        DUE.is("10: coins", x.ofHolder(0, 1), 0);
        Due.rule(x, 4, 0, "-9");
        x.again(0, 0);
        DUE.is("10: none is owed", x.ofHolder(0, 5), 0);
        DUE.is("10: coins", x.ofHolder(0, 1), 3);
    }
}

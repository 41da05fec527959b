/**
 * Section 4, AGAIN: each TURN done again is judged as that TURN, by its number, by what was ahead of it, by RULES for it AS KNOWN
 * TODAY. "COINS of those TURNS are as by that."
 */
public final class AgainEdgesTest {
    private static final Due DUE = new Due("AgainEdgesTest");

    public static void main(String[] args) {
        tieOfThatTurn();
        drawnOfThatTurn();
        tieMadeToday();
        tieForThatTurn();
        mayOfThatTurn();
        mayForThatTurn();
        coinsAheadOfThatTurn();
        piecesAheadOfThatTurn();
        cellsAheadOfThatTurn();
        ifOfThatTurn();
        feeOfThatTurn();
        feeForThatTurn();
        feeByPiecesBehindThatTurn();
        dropsStandAsTold();
        sightOfTheTurnItIsIn();
        DUE.end();
    }

    /** Two holders with 10 coins; pieces 0 and 1 of force 2 go to cell 1 from 0 and 2 in turn 0; so many turns are due. */
    private static PostTurns meeting(int seed, int turns) {
        PostTurns x = new PostTurns();
        x.game(seed);
        x.holder(0, 10);
        x.holder(0, 10);
        x.piece(0, 0, 2);
        x.piece(1, 2, 2);
        x.card(0, 0, 0);
        x.order(0, 0, 1, 1);
        x.card(1, 1, 0);
        x.order(1, 1, 1, 1);
        for (int t = 0; t < turns; t++) x.days(7);
        return x;
    }

    private static void doAll(PostTurns x, int turns) {
        for (int t = 0; t < turns; t++) DUE.is("24: done", x.done(0), t + 1);
    }

    private static void stands(String run, PostTurns x, int first, int second) {
        DUE.is(run + ": piece 0", x.ofPiece(0, 1), first);
        DUE.is(run + ": piece 1", x.ofPiece(1, 1), second);
    }

    /** TIE by t: that of turn 0 is judged with 0, however many turns were done. */
    private static void tieOfThatTurn() {
        String[] text = {"t=0?p;-p", "t=0?-p;p", "t?p;-p", "(1-t)*p"};
        int[] winner = {1, 0, 0, 1};
        for (int i = 0; i < text.length; i++) {
            PostTurns x = meeting(5, 3);
            Due.rule(x, 1, 0, text[i]);
            doAll(x, 3);
            stands("24: by " + text[i], x, winner[i] == 0 ? 1 : 0, winner[i] == 1 ? 1 : 2);
            DUE.is("25: again by " + text[i], x.again(0, 0), 0);
            stands("25: again by " + text[i], x, winner[i] == 0 ? 1 : 0, winner[i] == 1 ? 1 : 2);
        }
    }

    /** z is the number DRAWN for the TURN that is done again. */
    private static void drawnOfThatTurn() {
        int unlike = 0;
        for (int seed = 0; seed < 40; seed++) {
            PostTurns x = meeting(seed, 3);
            Due.rule(x, 1, 0, "z");
            int[] order = new int[4];
            for (int t = 0; t < 4; t++) order[t] = Integer.compare(x.drawn(0, t), x.drawn(1, t));
            for (int t = 1; t < 4; t++) unlike += order[t] != order[0] ? 1 : 0;
            doAll(x, 3);
            int first = order[0] > 0 ? 1 : 0, second = order[0] < 0 ? 1 : 2;
            stands("24: drawn by seed " + seed, x, first, second);
            DUE.is("25: again by seed " + seed, x.again(0, 0), 0);
            stands("25: again by seed " + seed, x, first, second);
        }
        DUE.holds("the turns do not draw alike", unlike > 20);
    }

    /** A TIE made behind the turn counts in it, when it is done again. */
    private static void tieMadeToday() {
        PostTurns x = meeting(5, 1);
        doAll(x, 1);
        stands("24: alike", x, 0, 2);
        x.days(9);
        Due.rule(x, 1, 0, "p");
        stands("24: as it was done", x, 0, 2);
        DUE.is("25: by the tie", x.again(0, 0), 1);
        stands("25: by the tie", x, 0, 1);
        Due.rule(x, 1, 0, "-p");
        DUE.is("25: by the other tie", x.again(0, 0), 2);
        stands("25: by the other tie", x, 1, 2);
    }

    /** A TIE for later turns on does not count in it. */
    private static void tieForThatTurn() {
        PostTurns x = meeting(5, 2);
        Due.rule(x, 1, 0, "p");
        Due.rule(x, 1, 1, "-p");
        Due.rule(x, 1, 2, "-p");
        doAll(x, 2);
        stands("24: by that of turn 0", x, 0, 1);
        DUE.is("25: by that of turn 0", x.again(0, 0), 0);
        stands("25: by that of turn 0", x, 0, 1);
    }

    /** MAY by t. */
    private static void mayOfThatTurn() {
        String[] text = {"t=0", "!t", "t<1", "p|!t"};
        for (String may : text) {
            PostTurns x = meeting(5, 4);
            Due.rule(x, 1, 0, "-p");
            Due.rule(x, 0, 0, may);
            doAll(x, 4);
            stands("24: may by " + may, x, 1, 2);
            DUE.is("25: again by " + may, x.again(0, 0), 0);
            stands("25: again by " + may, x, 1, 2);
        }
    }

    /** A MAY for later turns on does not count in it; one for it that was made today does. */
    private static void mayForThatTurn() {
        PostTurns x = meeting(5, 2);
        Due.rule(x, 1, 0, "p");
        Due.rule(x, 0, 1, "0");
        doAll(x, 2);
        DUE.is("25: of turn 1", x.again(0, 0), 0);
        stands("25: of turn 1", x, 0, 1);
        Due.rule(x, 0, 0, "!p");
        DUE.is("25: of turn 0", x.again(0, 0), 2);
        stands("25: of turn 0", x, 1, 2);
    }

    /** MAY and FEE by w: COINS ahead of that TURN. */
    private static void coinsAheadOfThatTurn() {
        PostTurns x = meeting(5, 3);
        Due.rule(x, 1, 0, "p");
        Due.rule(x, 0, 0, "w=10");
        Due.rule(x, 4, 0, "w/5");
        doAll(x, 3);
        stands("24: with ten coins", x, 0, 1);
        int coins = 10;
        for (int t = 0; t < 3; t++) coins += 1 - coins / 5;
        DUE.is("10: coins", x.ofHolder(0, 1), coins);
        for (int t = 2; t >= 0; t--) {
            DUE.is("25: from turn " + t, x.again(0, t), 0);
            stands("25: from turn " + t, x, 0, 1);
            DUE.is("10: coins as by that", x.ofHolder(0, 1), coins);
            DUE.is("10: owed as by that", x.ofHolder(0, 5), 10 + 3 - coins);
        }
    }

    /** MAY by n: PIECES that were there ahead of that TURN, though one was lost in it. */
    private static void piecesAheadOfThatTurn() {
        PostTurns x = meeting(5, 2);
        x.piece(1, 3, 1);
        x.piece(0, 9, 5);
        x.order(1, 2, 1, 4);
        x.turn(2, 40, 0);
        x.card(0, 0, 0);
        x.order(2, 3, 1, 3);
        Due.rule(x, 1, 0, "p");
        Due.rule(x, 0, 0, "n=2");
        doAll(x, 2);
        DUE.is("10: it lost one", x.ofHolder(1, 4), 1);
        stands("24: by two pieces each", x, 0, 1);
        DUE.is("25: by two pieces each", x.again(0, 0), 0);
        stands("25: by two pieces each", x, 0, 1);
        DUE.is("10: it lost one again", x.ofHolder(1, 4), 1);
    }

    /** MAY by c, and BESIDE: by the CELL where it was ahead of that TURN. */
    private static void cellsAheadOfThatTurn() {
        PostTurns x = meeting(5, 1);
        Due.rule(x, 1, 0, "p");
        Due.rule(x, 0, 0, "p?c=2;c=0");
        doAll(x, 1);
        x.card(1, 1, 0);
        x.order(2, 1, 1, 7);
        x.days(7);
        Due.rule(x, 0, 1, "c=1");
        x.done(0);
        stands("24: two moves", x, 0, 7);
        DUE.is("25: two moves", x.again(0, 0), 0);
        stands("25: two moves", x, 0, 7);
        DUE.is("25: the second move", x.again(0, 1), 0);
        DUE.is("26: behind turn 0", x.was(1, 0), 1);
        DUE.is("26: behind turn 1", x.was(1, 1), 7);
    }

    /** An IF by what was in the CELL as that TURN began. */
    private static void ifOfThatTurn() {
        PostTurns x = new PostTurns();
        x.game(0);
        x.holder(0, 0);
        x.piece(0, 0, 1);
        x.piece(0, 20, 1);
        x.card(0, 0, 0);
        x.order(0, 0, 1, 1);
        x.turn(2, 14, 1);
        x.order(0, 1, 1, 14);
        x.days(7);
        x.done(0);
        stands("24: it was empty", x, 1, 14);
        DUE.is("25: it was empty", x.again(0, 0), 0);
        Due.rule(x, 0, 0, "p");
        DUE.is("25: one may not", x.again(0, 0), 1);
        stands("25: one may not", x, 0, 14);
    }

    /** FEE by t: of each TURN its own. */
    private static void feeOfThatTurn() {
        PostTurns x = meeting(5, 4);
        Due.rule(x, 4, 0, "10*t+1");
        doAll(x, 4);
        DUE.is("10: owed", x.ofHolder(0, 5), 1 + 11 + 21 + 31);
        for (int t = 3; t >= 0; t--) {
            DUE.is("25: from turn " + t, x.again(0, t), 0);
            DUE.is("10: owed", x.ofHolder(0, 5), 1 + 11 + 21 + 31);
            DUE.is("10: coins", x.ofHolder(0, 1), 10 + 4 - 64);
        }
    }

    /** A FEE for later turns on does not count in it. */
    private static void feeForThatTurn() {
        PostTurns x = meeting(5, 4);
        Due.rule(x, 4, 0, "5");
        Due.rule(x, 4, 2, "7");
        Due.rule(x, 4, 4, "9");
        doAll(x, 4);
        DUE.is("10: owed", x.ofHolder(0, 5), 5 + 5 + 7 + 7);
        for (int t = 3; t >= 0; t--) {
            x.again(0, t);
            DUE.is("10: owed", x.ofHolder(0, 5), 5 + 5 + 7 + 7);
        }
        Due.rule(x, 4, 3, "1");
        x.again(0, 0);
        DUE.is("10: owed", x.ofHolder(0, 5), 5 + 5 + 7 + 1);
        DUE.is("15: in the turn it is in", x.says(4, 0), 1);
    }

    /** FEE by n: PIECES that are there behind the MOVES of that TURN, not behind the latest. */
    private static void feeByPiecesBehindThatTurn() {
        PostTurns x = new PostTurns();
        x.game(0);
        x.holder(0, 0);
        x.holder(0, 0);
        x.piece(0, 0, 5);
        x.piece(1, 2, 1);
        x.piece(1, 30, 1);
        x.card(0, 0, 9);
        x.order(0, 0, 1, 1);
        x.card(0, 0, 0);
        x.order(1, 0, 0, 0);
        x.days(7);
        Due.rule(x, 4, 0, "100*n");
        x.done(0);
        x.days(7);
        x.done(0);
        x.card(0, 0, 0);
        x.order(2, 0, 1, 2);
        x.days(7);
        x.done(0);
        DUE.is("10: owed for 2, 2 and 1", x.ofHolder(1, 5), 500);
        DUE.is("25: again", x.again(0, 0), 0);
        DUE.is("10: owed for 2, 2 and 1", x.ofHolder(1, 5), 500);
        DUE.is("10: coins", x.ofHolder(1, 1), 2 + 2 + 1 - 500);
    }

    /** "DROPS: from the TURN of its GAME on": a TURN ahead of that is done again with its own CARDS, COINS and FEE. */
    private static void dropsStandAsTold() {
        PostTurns x = meeting(5, 3);
        Due.rule(x, 1, 0, "-p");
        Due.rule(x, 4, 0, "3");
        doAll(x, 1);
        x.drops(0, 1);
        x.done(0);
        x.done(0);
        stands("24: its own card", x, 1, 2);
        DUE.is("10: coins of turn 0", x.ofHolder(0, 1), 10 + 1 - 3);
        DUE.is("25: again", x.again(0, 0), 0);
        stands("25: its own card", x, 1, 2);
        DUE.is("10: coins of turn 0", x.ofHolder(0, 1), 10 + 1 - 3);
        DUE.is("10: a fee of turn 0", x.ofHolder(0, 5), 3);
        DUE.is("10: three fees", x.ofHolder(1, 5), 9);
        DUE.is("10: it dropped in turn 1", x.ofHolder(0, 2), 1);
    }

    /** Promise 27: SIGHT behind AGAIN is that of the TURN that the GAME is in. */
    private static void sightOfTheTurnItIsIn() {
        PostTurns x = meeting(5, 2);
        Due.rule(x, 1, 0, "p");
        Due.rule(x, 2, 0, "t");
        doAll(x, 2);
        DUE.is("25: again", x.again(0, 0), 0);
        DUE.is("15: sight", x.says(2, 0), 2);
        DUE.is("27: two cells on", x.sees(0, 12), -2);
        DUE.is("27: three cells on", x.sees(0, 18), -5);
        DUE.is("27: the piece that came", x.sees(0, 1), 1);
    }
}

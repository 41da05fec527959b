/** The edges of promises 27, 28, 33 and 34, sentence by sentence: sheets, coins paid, bars. */
public final class SheetsEdgesTest {
    private static final Due DUE = new Due("SheetsEdgesTest");
    private static final int MIN = Integer.MIN_VALUE, MAX = Integer.MAX_VALUE;

    public static void main(String[] args) {
        seesRefusals();
        justSoFar();
        farthestOfAll();
        byWhicheverPiece();
        noPiecesThere();
        whereOneWent();
        allFortyAreSeen();
        sightOfTheTurnItIsIn();
        alikeRefusals();
        alikeInNoneAndInAll();
        payRefusals();
        barRefusals();
        barOfAllHolders();
        barOfItsGame();
        DUE.end();
    }

    private static int way(int a, int b) {
        return Math.abs(a / 6 - b / 6) + Math.abs(a % 6 - b % 6);
    }

    /** Promise 27: "the PIECE there; -2 (NOT): none; -5: it does not SEE it. BAD". */
    private static void seesRefusals() {
        PostTurns x = new PostTurns();
        x.game(0);
        x.holder(0, 0);
        x.piece(0, 0, 1);
        int[] none = {-1, 1, 11, 12, MIN, MAX};
        for (int h : none) DUE.is("27: holder " + h, x.sees(h, 0), -1);
        int[] noCell = {-1, 48, 99, 100, MIN, MAX};
        for (int c : noCell) DUE.is("27: cell " + c, x.sees(0, c), -1);
        DUE.is("27: piece 0 in cell 0", x.sees(0, 0), 0);
        DUE.is("27: none", x.sees(0, 12), -2);
        DUE.is("27: not seen", x.sees(0, 18), -5);
        DUE.is("27: the last cell", x.sees(0, 47), -5);
    }

    /** "it SEES a CELL, if the WAY from one of its PIECES is SIGHT of that or less". */
    private static void justSoFar() {
        for (int sight = 0; sight <= 9; sight++) {
            for (int from : new int[] {0, 5, 20, 42, 47}) {
                PostTurns x = new PostTurns();
                x.game(0);
                x.holder(0, 0);
                x.holder(0, 0);
                x.piece(0, from, 1);
                Due.rule(x, 2, 0, "" + sight);
                for (int c = 0; c < 48; c++) {
                    int want = way(from, c) > sight ? -5 : c == from ? 0 : -2;
                    DUE.is("27: cell " + c + " from " + from + " by " + sight, x.sees(0, c), want);
                    DUE.is("27: of the other holder", x.sees(1, c), -5);
                }
            }
        }
    }

    /** The longest WAY is 12; no SIGHT is above 9. */
    private static void farthestOfAll() {
        PostTurns x = new PostTurns();
        x.game(0);
        x.holder(0, 0);
        x.piece(0, 0, 1);
        Due.rule(x, 2, 0, "9999");
        int unseen = 0;
        for (int c = 0; c < 48; c++) unseen += x.sees(0, c) == -5 ? 1 : 0;
        DUE.is("27: ways of 10, 11, 12", unseen, 3 + 2 + 1);
        DUE.is("27: a way of 9", x.sees(0, 44 - 6), -2);
        DUE.is("27: a way of 9", x.sees(0, 44), -2);
        DUE.is("27: a way of 10", x.sees(0, 45), -5);
    }

    /** "from one of its PIECES .. SIGHT of that": each has its own; pieces of others are seen, not seen by. */
    private static void byWhicheverPiece() {
        PostTurns x = new PostTurns();
        x.game(0);
        x.game(0);
        x.holder(0, 0);
        x.holder(0, 0);
        x.holder(1, 0);
        x.piece(0, 0, 1);
        x.piece(0, 47, 1);
        x.piece(1, 1, 1);
        x.piece(2, 0, 1);
        x.piece(2, 6, 1);
        Due.rule(x, 2, 0, "p=1?3;p=2?9;0");
        for (int c = 0; c < 48; c++) {
            int there = c == 0 ? 0 : c == 47 ? 1 : c == 1 ? 2 : -2;
            DUE.is("27: cell " + c, x.sees(0, c), c == 0 || way(47, c) <= 3 ? there : -5);
            DUE.is("27: cell " + c, x.sees(1, c), way(1, c) <= 9 ? there : -5);
            int other = c == 0 ? 3 : c == 6 ? 4 : -2;
            DUE.is("27: cell " + c + " of the other game", x.sees(2, c), way(0, c) <= 2 || way(6, c) <= 2 ? other : -5);
        }
    }

    /** One that is GONE sees nothing, and is not seen. */
    private static void noPiecesThere() {
        PostTurns x = new PostTurns();
        x.game(0);
        x.holder(0, 0);
        x.holder(0, 0);
        x.piece(0, 0, 5);
        x.piece(1, 1, 2);
        DUE.is("27: seen", x.sees(0, 1), 1);
        x.card(0, 0, 0);
        x.order(0, 0, 1, 1);
        x.days(7);
        x.done(0);
        DUE.is("27: gone, the other is seen", x.sees(0, 1), 0);
        for (int c = 0; c < 48; c++) DUE.is("27: by one gone", x.sees(1, c), -5);
        int seen = 0;
        for (int c = 0; c < 48; c++) seen += way(1, c) <= 2 ? 1 : 0;
        DUE.is("28: alike where neither sees", x.alike(0, 1), 48 - seen);
    }

    /** "the PIECE there": not one that is GONE, though its number is less; none, where the other went on. */
    private static void whereOneWent() {
        PostTurns x = new PostTurns();
        x.game(0);
        x.holder(0, 0);
        x.holder(0, 0);
        x.piece(0, 0, 2);
        x.piece(1, 1, 5);
        x.piece(0, 7, 1);
        x.card(1, 1, 0);
        x.order(0, 1, 1, 0);
        x.days(7);
        x.done(0);
        DUE.is("9: gone", x.ofPiece(0, 3), 1);
        DUE.is("27: the one that came", x.sees(0, 0), 1);
        x.card(0, 0, 0);
        x.order(1, 2, 1, 8);
        x.turn(2, 0, 1);
        DUE.is("23: not empty", x.orderOf(2), -1);
        x.card(1, 1, 0);
        x.order(2, 1, 1, 6);
        x.days(7);
        x.done(0);
        DUE.is("27: it went on", x.sees(0, 0), -2);
        DUE.is("9: the cell of the one gone stays", x.ofPiece(0, 1), 0);
        x.card(0, 0, 0);
        x.order(3, 2, 1, 8);
        x.turn(2, 0, 1);
        DUE.is("23: empty", x.orderOf(2), 3);
    }

    /** "PIECES 0 .. 39": each of forty is seen in its CELL, which is not EMPTY. */
    private static void allFortyAreSeen() {
        PostTurns x = new PostTurns();
        x.game(0);
        x.holder(0, 0);
        for (int p = 0; p < 40; p++) x.piece(0, 47 - p, 1);
        x.card(0, 0, 0);
        for (int p = 0; p < 40; p++) {
            DUE.is("27: piece " + p, x.sees(0, 47 - p), p);
            DUE.is("4: it is there", x.cell(47 - p, 1, 1), -2);
            x.order(0, p, 0, 0);
            x.turn(2, 47 - p, 0);
            DUE.is("23: its cell is not empty", x.orderOf(p), x.count(8) - 1);
        }
        for (int c = 0; c < 8; c++) DUE.is("27: none in cell " + c, x.sees(0, c), -2);
    }

    /** "(SIGHT of the TURN that the GAME is in, AS KNOWN TODAY)". */
    private static void sightOfTheTurnItIsIn() {
        PostTurns x = new PostTurns();
        x.game(0);
        x.holder(0, 0);
        x.piece(0, 0, 1);
        Due.rule(x, 2, 1, "0");
        Due.rule(x, 2, 2, "1");
        int[] sight = {2, 0, 1};
        for (int t = 0; t < 3; t++) {
            for (int c = 0; c < 5; c++) DUE.is("27: in turn " + t, x.sees(0, c), c > sight[t] ? -5 : c == 0 ? 0 : -2);
            x.days(7);
            x.done(0);
        }
        Due.rule(x, 2, 3, "4");
        DUE.is("27: made today", x.sees(0, 4), -2);
        DUE.is("27: made today", x.sees(0, 5), -5);
    }

    /** Promise 28: "two HOLDERS' SHEETS (of one GAME) .. BAD". */
    private static void alikeRefusals() {
        PostTurns x = new PostTurns();
        x.game(0);
        x.game(0);
        x.holder(0, 0);
        x.holder(1, 0);
        x.holder(0, 0);
        int[] none = {-1, 3, 11, 12, MIN, MAX};
        for (int h : none) {
            DUE.is("28: with " + h, x.alike(0, h), -1);
            DUE.is("28: with " + h, x.alike(h, 0), -1);
            DUE.is("28: both " + h, x.alike(h, h), -1);
        }
        DUE.is("28: of two games", x.alike(0, 1), -1);
        DUE.is("28: of two games", x.alike(1, 2), -1);
        DUE.is("28: of one", x.alike(0, 2), 48);
        DUE.is("28: with itself", x.alike(1, 1), 48);
    }

    /** "ALIKE .., if both SEE it or neither": in none of 48, in all. */
    private static void alikeInNoneAndInAll() {
        PostTurns x = new PostTurns();
        x.game(0);
        x.holder(0, 0);
        x.holder(0, 0);
        x.holder(0, 0);
        x.piece(0, 2, 1);
        x.piece(0, 45, 1);
        Due.rule(x, 2, 0, "9");
        for (int c = 0; c < 48; c++) DUE.holds("27: it sees all", x.sees(0, c) != -5);
        DUE.is("28: all against nothing", x.alike(0, 1), 0);
        DUE.is("28: nothing against all", x.alike(1, 0), 0);
        DUE.is("28: nothing and nothing", x.alike(1, 2), 48);
        x.piece(1, 3, 1);
        x.piece(1, 44, 1);
        DUE.is("28: all and all", x.alike(0, 1), 48);
        Due.rule(x, 2, 0, "0");
        DUE.is("28: two cells of each", x.alike(0, 1), 44);
    }

    /** Promise 33: "(1 .. 99999) ..: all. BAD". */
    private static void payRefusals() {
        PostTurns x = new PostTurns();
        x.game(0);
        for (int h = 0; h < 12; h++) x.holder(0, 0);
        int[] bad = {0, -1, 100000, MIN, MAX};
        for (int coins : bad) DUE.is("33: pays " + coins, x.pay(0, coins), -1);
        int[] none = {-1, 12, MIN, MAX};
        for (int h : none) DUE.is("33: holder " + h, x.pay(h, 1), -1);
        DUE.is("10: nothing was paid", x.ofHolder(0, 6), 0);
        DUE.is("33: the least", x.pay(0, 1), 1);
        DUE.is("33: the most", x.pay(11, 99999), 99999);
        for (int i = 2; i <= 300; i++) DUE.is("33: all", x.pay(11, 99999), 99999 * i);
        DUE.is("10: paid", x.ofHolder(11, 6), 99999 * 300);
        DUE.is("10: back", x.ofHolder(11, 7), 99999 * 300);
        DUE.is("10: of the first", x.ofHolder(0, 6), 1);
        DUE.is("10: no coins of it", x.ofHolder(11, 1), 0);
    }

    /** Promise 34: "BAD"; 0, where none RUNS it. */
    private static void barRefusals() {
        PostTurns x = new PostTurns();
        int[] none = {-1, 0, 1, 2, 3, MIN, MAX};
        for (int game : none) DUE.is("34: game " + game, x.bar(game), -1);
        x.game(0);
        DUE.is("34: none runs it", x.bar(0), 0);
        DUE.is("34: no second game", x.bar(1), -1);
        x.holder(0, 0);
        x.holder(0, 0);
        x.drops(0, 1);
        DUE.is("34: a proxy that runs nothing", x.bar(0), 0);
    }

    /** "HOLDERS that RUN the GAME in which they are, and those whose PROXY such a one is: told by bits": 0 .. 11. */
    private static void barOfAllHolders() {
        for (int runner = 0; runner < 12; runner++) {
            PostTurns x = new PostTurns();
            x.game(0);
            for (int h = 0; h < 12; h++) x.holder(0, 0);
            x.runs(runner, 0);
            DUE.is("34: one alone", x.bar(0), 1 << runner);
            int bits = 1 << runner;
            for (int h = 0; h < 12; h++) {
                if (h == runner) continue;
                boolean none = (h + runner) % 3 == 2;
                x.drops(h, none ? -1 : runner);
                bits |= none ? 0 : 1 << h;
                DUE.is("34: and whose proxy it is", x.bar(0), bits);
            }
            x.drops(runner, (runner + 1) % 12);
            DUE.is("34: it dropped itself", x.bar(0), bits);
        }
    }

    /** One that RUNS a GAME in which it is not is no BAR of either. */
    private static void barOfItsGame() {
        PostTurns x = new PostTurns();
        x.game(0);
        x.game(0);
        x.game(0);
        for (int h = 0; h < 9; h++) x.holder(h % 3, 0);
        x.drops(3, 0);
        x.runs(0, 1);
        for (int g = 0; g < 3; g++) DUE.is("34: it runs another", x.bar(g), 0);
        x.runs(0, 0);
        DUE.is("34: it runs its own, too", x.bar(0), 1 | 1 << 3);
        DUE.is("34: not of the other", x.bar(1), 0);
        x.runs(8, 2);
        DUE.is("34: of the third game", x.bar(2), 1 << 8);
        x.runs(7, 2);
        DUE.is("34: another runs it now", x.bar(2), 0);
        x.runs(3, 0);
        DUE.is("34: one who dropped, without its proxy", x.bar(0), 1 << 3);
    }
}

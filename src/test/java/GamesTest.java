/** Promises 1 to 11: days, games, cells, holders, pieces, and what is told of them. */
public final class GamesTest {
    private static final Due DUE = new Due("GamesTest");

    public static void main(String[] args) {
        fresh();
        days();
        games();
        cells();
        holders();
        runs();
        drops();
        pieces();
        ofPieces();
        ofHolders();
        ofGames();
        DUE.end();
    }

    private static void fresh() {
        PostTurns x = new PostTurns();
        for (int what = 0; what <= 9; what++) DUE.is("count(" + what + ")", x.count(what), 0);
        DUE.is("ofGame of none", x.ofGame(0, 0), -1);
        DUE.is("done of none", x.done(0), -1);
        DUE.is("best of none", x.best(), -4);
        DUE.is("trace of none", x.trace(0), -1);
        DUE.is("turn of none", x.turn(2, 0, 0), -4);
        DUE.is("bestWay of none", x.bestWay(0), -1);
        DUE.is("element of nothing", x.element(0, 0), Long.MIN_VALUE);
    }

    private static void days() {
        PostTurns x = new PostTurns();
        DUE.is("days(0)", x.days(0), -1);
        DUE.is("days(61)", x.days(61), -1);
        DUE.is("days(-1)", x.days(-1), -1);
        DUE.is("days(max)", x.days(Integer.MAX_VALUE), -1);
        DUE.is("days(1)", x.days(1), 1);
        for (int i = 0; i < 16; i++) x.days(60);
        DUE.is("day 961", x.count(4), 961);
        DUE.is("days(39) beyond 999", x.days(39), -1);
        DUE.is("day stays", x.count(4), 961);
        DUE.is("days(38)", x.days(38), 999);
        DUE.is("days(1) beyond 999", x.days(1), -1);
    }

    private static void games() {
        PostTurns x = new PostTurns();
        DUE.is("game", x.game(Integer.MIN_VALUE), 0);
        x.days(5);
        DUE.is("game", x.game(-1), 1);
        DUE.is("game", x.game(0), 2);
        DUE.is("game FULL", x.game(0), -3);
        DUE.is("count", x.count(0), 3);
        DUE.is("due of the first", x.ofGame(0, 1), 7);
        DUE.is("due of the second", x.ofGame(1, 1), 12);
    }

    private static void cells() {
        PostTurns x = new PostTurns();
        DUE.is("no game", x.cell(0, 0, 1), -1);
        x.game(1);
        x.game(2);
        DUE.is("value", x.cell(147, 0, 9), 1);
        DUE.is("value again", x.cell(147, 0, 0), 9);
        DUE.is("of the other game", x.cell(47, 0, 5), 1);
        DUE.is("wall", x.cell(147, 1, 1), 0);
        DUE.is("wall again", x.cell(147, 1, 1), 1);
        DUE.is("wall away", x.cell(147, 1, 0), 1);
        DUE.is("cell 48", x.cell(48, 0, 1), -1);
        DUE.is("cell 99", x.cell(99, 0, 1), -1);
        DUE.is("cell 200", x.cell(200, 0, 1), -1);
        DUE.is("cell -1", x.cell(-1, 0, 1), -1);
        DUE.is("cell -100", x.cell(-100, 0, 1), -1);
        DUE.is("what 2", x.cell(0, 2, 0), -1);
        DUE.is("what -1", x.cell(0, -1, 0), -1);
        DUE.is("value 10", x.cell(0, 0, 10), -1);
        DUE.is("value -1", x.cell(0, 0, -1), -1);
        DUE.is("wall 2", x.cell(0, 1, 2), -1);
        x.holder(0, 0);
        x.piece(0, 3, 1);
        DUE.is("wall at a piece", x.cell(3, 1, 1), -2);
        DUE.is("no wall at a piece", x.cell(3, 1, 0), 0);
        DUE.is("value at a piece", x.cell(3, 0, 4), 1);
        DUE.is("wall in the other game", x.cell(103, 1, 1), 0);
        x.days(7);
        x.done(0);
        DUE.is("STATE ahead of NOT", x.cell(3, 1, 1), -4);
        DUE.is("STATE", x.cell(20, 0, 2), -4);
        DUE.is("BAD ahead of STATE", x.cell(20, 0, 11), -1);
        DUE.is("the other game is not begun", x.cell(120, 0, 2), 1);
    }

    private static void holders() {
        PostTurns x = new PostTurns();
        DUE.is("no game", x.holder(0, 0), -1);
        x.game(1);
        x.game(1);
        DUE.is("coins -1", x.holder(0, -1), -1);
        DUE.is("coins 10000", x.holder(0, 10000), -1);
        DUE.is("coins 9999", x.holder(0, 9999), 0);
        DUE.is("game 2", x.holder(2, 0), -1);
        DUE.is("game -1", x.holder(-1, 0), -1);
        x.days(7);
        x.done(1);
        DUE.is("STATE", x.holder(1, 0), -4);
        for (int i = 1; i < 12; i++) DUE.is("holder", x.holder(0, i), i);
        DUE.is("FULL", x.holder(0, 0), -3);
        DUE.is("STATE ahead of FULL", x.holder(1, 0), -4);
        DUE.is("count", x.count(1), 12);
    }

    private static void runs() {
        PostTurns x = new PostTurns();
        x.game(1);
        x.game(1);
        x.holder(0, 0);
        x.holder(0, 0);
        DUE.is("none ran it", x.runs(1, 0), -1);
        DUE.is("one ran it", x.runs(0, 0), 1);
        DUE.is("another game", x.runs(0, 1), -1);
        DUE.is("who runs", x.ofGame(0, 2), 0);
        DUE.is("who runs the other", x.ofGame(1, 2), 0);
        DUE.is("no holder", x.runs(2, 0), -2000000000);
        DUE.is("no game", x.runs(0, 2), -2000000000);
        DUE.is("holder -1", x.runs(-1, 0), -2000000000);
        DUE.is("still", x.ofGame(0, 2), 0);
    }

    private static void drops() {
        PostTurns x = new PostTurns();
        x.game(1);
        x.game(1);
        x.holder(0, 0);
        x.holder(0, 0);
        x.holder(1, 0);
        DUE.is("no holder", x.drops(3, -1), -1);
        DUE.is("itself", x.drops(0, 0), -1);
        DUE.is("of another game", x.drops(0, 2), -1);
        DUE.is("proxy -2", x.drops(0, -2), -1);
        DUE.is("proxy 3", x.drops(0, 3), -1);
        DUE.is("not yet", x.ofHolder(0, 2), -1);
        x.days(14);
        x.done(0);
        DUE.is("drops", x.drops(0, 1), 1);
        DUE.is("from turn 1", x.ofHolder(0, 2), 1);
        DUE.is("proxy", x.ofHolder(0, 3), 1);
        DUE.is("STATE", x.drops(0, -1), -4);
        DUE.is("BAD ahead of STATE", x.drops(0, 2), -1);
        DUE.is("drops with none", x.drops(1, -1), 1);
        DUE.is("no proxy", x.ofHolder(1, 3), -1);
        DUE.is("from turn 0", x.drops(2, -1), 1);
        DUE.is("from turn 0", x.ofHolder(2, 2), 0);
    }

    private static void pieces() {
        PostTurns x = new PostTurns();
        x.game(1);
        x.game(1);
        x.holder(0, 0);
        x.holder(1, 0);
        x.cell(9, 1, 1);
        DUE.is("no holder", x.piece(2, 0, 1), -1);
        DUE.is("cell 48", x.piece(0, 48, 1), -1);
        DUE.is("cell 100 is none", x.piece(1, 100, 1), -1);
        DUE.is("cell -1", x.piece(0, -1, 1), -1);
        DUE.is("force 0", x.piece(0, 0, 0), -1);
        DUE.is("force 10", x.piece(0, 0, 10), -1);
        DUE.is("wall", x.piece(0, 9, 1), -1);
        DUE.is("no wall in that game", x.piece(1, 9, 9), 0);
        DUE.is("piece", x.piece(0, 10, 9), 1);
        DUE.is("one is there", x.piece(0, 10, 1), -2);
        DUE.is("cells of games part", x.piece(1, 10, 1), 2);
        x.days(7);
        x.done(1);
        DUE.is("STATE ahead of NOT", x.piece(1, 10, 1), -4);
        DUE.is("BAD ahead of STATE", x.piece(1, 10, 0), -1);
        int made = 3;
        for (int c = 0; c < 48 && made < 40; c++) {
            if (c != 9 && c != 10) DUE.is("piece", x.piece(0, c, 1), made++);
        }
        DUE.is("NOT ahead of FULL", x.piece(0, 10, 1), -2);
        DUE.is("FULL", x.piece(0, 47, 1), -3);
        DUE.is("count", x.count(2), 40);
        DUE.is("count there", x.count(3), 40);
    }

    private static void ofPieces() {
        PostTurns x = new PostTurns();
        x.game(1);
        x.holder(0, 0);
        x.holder(0, 0);
        x.piece(1, 17, 6);
        int[] want = {1, 17, 6, 0, -1, 0};
        for (int what = 0; what < 6; what++) DUE.is("ofPiece " + what, x.ofPiece(0, what), want[what]);
        DUE.is("what 6", x.ofPiece(0, 6), -2000000000);
        DUE.is("what -1", x.ofPiece(0, -1), -2000000000);
        DUE.is("no piece", x.ofPiece(1, 0), -2000000000);
        DUE.is("piece -1", x.ofPiece(-1, 0), -2000000000);
    }

    private static void ofHolders() {
        PostTurns x = new PostTurns();
        x.game(1);
        x.game(1);
        x.holder(1, 40);
        x.piece(0, 5, 1);
        x.piece(0, 6, 1);
        Due.rule(x, 14, 0, "h+n+30");
        int[] ahead = {1, 40, -1, -1, 2, 0, 0, 0};
        for (int what = 0; what < 8; what++) DUE.is("ofHolder " + what, x.ofHolder(0, what), ahead[what]);
        x.pay(0, 10);
        DUE.is("back of 10, nothing owed", x.ofHolder(0, 7), 10);
        x.days(14);
        x.done(1);
        int[] behind = {1, 40 + 2 - 32, -1, -1, 2, 32, 10, 0};
        for (int what = 0; what < 8; what++) DUE.is("ofHolder " + what, x.ofHolder(0, what), behind[what]);
        x.done(1);
        DUE.is("coins fall below 0", x.ofHolder(0, 1), -20);
        DUE.is("owed", x.ofHolder(0, 5), 64);
        x.pay(0, 55);
        DUE.is("back", x.ofHolder(0, 7), 1);
        DUE.is("what 8", x.ofHolder(0, 8), -2000000000);
        DUE.is("what -1", x.ofHolder(0, -1), -2000000000);
        DUE.is("no holder", x.ofHolder(1, 0), -2000000000);
    }

    private static void ofGames() {
        PostTurns x = new PostTurns();
        x.days(3);
        x.game(1);
        DUE.is("turn", x.ofGame(0, 0), 0);
        DUE.is("due", x.ofGame(0, 1), 10);
        DUE.is("runs", x.ofGame(0, 2), -1);
        DUE.is("times", x.ofGame(0, 3), 0);
        DUE.is("what 4", x.ofGame(0, 4), -1);
        DUE.is("what -1", x.ofGame(0, -1), -1);
        DUE.is("no game", x.ofGame(1, 0), -1);
        DUE.is("no game, who runs", x.ofGame(1, 2), -2000000000);
        DUE.is("no game, what 4", x.ofGame(-1, 4), -1);
        for (int i = 0; i < 4; i++) x.days(60);
        for (int t = 1; t <= 30; t++) DUE.is("done", x.done(0), t);
        DUE.is("turn 30", x.ofGame(0, 0), 30);
        DUE.is("due of 30", x.ofGame(0, 1), 3 + 7 * 31);
        DUE.is("times", x.ofGame(0, 3), 30);
        x.again(0, 28);
        DUE.is("times", x.ofGame(0, 3), 32);
    }
}

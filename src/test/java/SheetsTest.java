/** Promises 27, 28, 33 and 34: sheets, coins paid, bars. */
public final class SheetsTest {
    private static final Due DUE = new Due("SheetsTest");

    public static void main(String[] args) {
        sees();
        alike();
        sheetsOfTurns();
        pay();
        bar();
        DUE.end();
    }

    private static int way(int a, int b) {
        return Math.abs(a / 6 - b / 6) + Math.abs(a % 6 - b % 6);
    }

    private static void sees() {
        PostTurns x = new PostTurns();
        x.game(0);
        x.game(0);
        x.holder(0, 0);
        x.holder(0, 0);
        x.holder(1, 0);
        x.holder(0, 0);
        x.piece(0, 8, 1);
        x.piece(0, 40, 1);
        x.piece(1, 9, 1);
        x.piece(2, 8, 1);
        for (int c = 0; c < 48; c++) {
            boolean seen = way(c, 8) <= 2 || way(c, 40) <= 2;
            int there = c == 8 ? 0 : c == 40 ? 1 : c == 9 ? 2 : -2;
            DUE.is("sees " + c, x.sees(0, c), seen ? there : -5);
            DUE.is("without pieces " + c, x.sees(3, c), -5);
        }
        DUE.is("of its own game", x.sees(2, 8), 3);
        DUE.is("of its own game", x.sees(2, 9), -2);
        DUE.is("no holder", x.sees(4, 0), -1);
        DUE.is("holder -1", x.sees(-1, 0), -1);
        DUE.is("cell 48", x.sees(0, 48), -1);
        DUE.is("cell -1", x.sees(0, -1), -1);
        // Each piece sees by a sight of its own.
        Due.rule(x, 2, 0, "p=0?1;0");
        DUE.is("by 1", x.sees(0, 7), -2);
        DUE.is("by 1", x.sees(0, 6), -5);
        DUE.is("by 0", x.sees(0, 40), 1);
        DUE.is("by 0", x.sees(0, 41), -5);
        DUE.is("the other game has none", x.sees(2, 6), -2);
    }

    private static void alike() {
        PostTurns x = new PostTurns();
        x.game(0);
        x.game(0);
        x.holder(0, 0);
        x.holder(0, 0);
        x.holder(1, 0);
        x.holder(0, 0);
        x.holder(0, 0);
        DUE.is("both see nothing", x.alike(0, 1), 48);
        x.piece(0, 8, 1);
        x.piece(1, 10, 1);
        int same = 0, some = 0;
        for (int c = 0; c < 48; c++) {
            same += (way(c, 8) <= 2) == (way(c, 10) <= 2) ? 1 : 0;
            some += way(c, 8) <= 2 ? 0 : 1;
        }
        DUE.is("alike", x.alike(0, 1), same);
        DUE.is("alike", x.alike(1, 0), same);
        DUE.is("with one that sees nothing", x.alike(0, 3), some);
        DUE.is("two that see nothing", x.alike(3, 4), 48);
        DUE.is("with itself", x.alike(1, 1), 48);
        DUE.is("of two games", x.alike(0, 2), -1);
        DUE.is("no holder", x.alike(0, 5), -1);
        DUE.is("no holder", x.alike(5, 0), -1);
        DUE.is("holder -1", x.alike(-1, 0), -1);
        DUE.is("holder -1", x.alike(0, -1), -1);
    }

    /** SIGHT of the turn that the game is in; one gone sees nothing. */
    private static void sheetsOfTurns() {
        PostTurns x = new PostTurns();
        x.game(0);
        x.holder(0, 0);
        x.holder(0, 0);
        x.piece(0, 0, 3);
        x.piece(1, 1, 2);
        Due.rule(x, 2, 1, "t");
        x.card(0, 0, 0);
        x.order(0, 0, 1, 1);
        DUE.is("without a rule of turn 0", x.sees(0, 2), -2);
        DUE.is("one seen", x.sees(1, 0), 0);
        x.days(7);
        x.done(0);
        DUE.is("by 1", x.sees(0, 2), -2);
        DUE.is("by 1", x.sees(0, 3), -5);
        DUE.is("it is there now", x.sees(0, 1), 0);
        DUE.is("its cell is empty", x.sees(0, 0), -2);
        DUE.is("one gone sees nothing", x.sees(1, 1), -5);
        x.drops(0, -1);
        DUE.is("one who dropped sees yet", x.sees(0, 1), 0);
        for (int i = 0; i < 4; i++) x.days(60);
        for (int t = 1; t < 30; t++) x.done(0);
        DUE.is("turn 30", x.says(2, 0), 9);
    }

    private static void pay() {
        PostTurns x = new PostTurns();
        x.game(0);
        x.holder(0, 5);
        DUE.is("0", x.pay(0, 0), -1);
        DUE.is("100000", x.pay(0, 100000), -1);
        DUE.is("-1", x.pay(0, -1), -1);
        DUE.is("no holder", x.pay(1, 1), -1);
        DUE.is("holder -1", x.pay(-1, 1), -1);
        DUE.is("1", x.pay(0, 1), 1);
        DUE.is("99999", x.pay(0, 99999), 100000);
        DUE.is("paid", x.ofHolder(0, 6), 100000);
        DUE.is("back", x.ofHolder(0, 7), 100000);
        DUE.is("not of coins", x.ofHolder(0, 1), 5);
        Due.rule(x, 4, 0, "9");
        x.days(7);
        x.done(0);
        DUE.is("back above what is owed", x.ofHolder(0, 7), 99991);
        Due.rule(x, 4, 0, "7");
        x.again(0, 0);
        DUE.is("by the latest doing", x.ofHolder(0, 5), 7);
        DUE.is("back", x.ofHolder(0, 7), 99993);
    }

    private static void bar() {
        PostTurns x = new PostTurns();
        x.game(0);
        x.game(0);
        for (int h = 0; h < 12; h++) x.holder(h % 2, 0);
        DUE.is("none runs it", x.bar(0), 0);
        DUE.is("no game", x.bar(2), -1);
        DUE.is("game -1", x.bar(-1), -1);
        x.runs(1, 0);
        DUE.is("one of another game runs it", x.bar(0), 0);
        x.drops(3, 1);
        DUE.is("and its proxy of that", x.bar(0), 0);
        DUE.is("nor runs it that", x.bar(1), 0);
        x.runs(10, 0);
        DUE.is("in its game", x.bar(0), 1 << 10);
        x.drops(2, 10);
        x.drops(4, 2);
        x.drops(6, 10);
        DUE.is("those whose proxy it is", x.bar(0), 1 << 10 | 1 << 2 | 1 << 6);
        x.runs(2, 0);
        DUE.is("of like tellings the last", x.bar(0), 1 << 2 | 1 << 4);
        x.runs(1, 1);
        DUE.is("the other game", x.bar(1), 1 << 1 | 1 << 3);
    }
}

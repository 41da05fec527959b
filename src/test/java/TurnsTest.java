/** Promises 24 to 26, and how a turn is done (section 4) and led (section 6). */
public final class TurnsTest {
    private static final Due DUE = new Due("TurnsTest");

    public static void main(String[] args) {
        refusals();
        lateDoing();
        strengths();
        helps();
        cuts();
        crowds();
        swaps();
        chains();
        ownPieces();
        goneOnes();
        coins();
        sameWhicheverCame();
        againByRules();
        againByOrders();
        againCounts();
        againGone();
        againBackAndForth();
        againAndDrops();
        againDeals();
        was();
        DUE.end();
    }

    /** A game with pieces told by threes of holder, cell, force, and a card of each holder sent today. */
    private static PostTurns made(int holders, int... threes) {
        PostTurns x = new PostTurns();
        x.game(123);
        for (int h = 0; h < holders; h++) x.holder(0, 0);
        for (int i = 0; i < threes.length; i += 3) {
            DUE.is("piece", x.piece(threes[i], threes[i + 1], threes[i + 2]), i / 3);
        }
        cards(x, holders);
        return x;
    }

    private static void cards(PostTurns x, int holders) {
        for (int h = 0; h < holders; h++) x.card(h, h, 0);
    }

    /** An order on the latest card of its holder. */
    private static int tell(PostTurns x, int piece, int what, int at) {
        int holder = x.ofPiece(piece, 0);
        int card = x.count(7) - 1;
        while (card >= 0 && x.ofCard(card, 0) != holder) card--;
        return x.order(card, piece, what, at);
    }

    private static void next(PostTurns x) {
        x.days(7);
        x.done(0);
        DUE.is("check", x.check(0), 0);
    }

    /** Where each piece is (-2: gone), and how its move failed. */
    private static void stands(String run, PostTurns x, int... cellsAndFails) {
        int t = x.ofGame(0, 0) - 1;
        for (int i = 0; i < cellsAndFails.length; i += 2) {
            DUE.is(run + ": where piece " + i / 2 + " is", x.was(i / 2, t), cellsAndFails[i]);
            DUE.is(run + ": whether piece " + i / 2 + " is gone", x.ofPiece(i / 2, 3), cellsAndFails[i] == -2 ? 1 : 0);
            DUE.is(run + ": how piece " + i / 2 + " failed", x.ofPiece(i / 2, 5), cellsAndFails[i + 1]);
        }
    }

    private static void refusals() {
        PostTurns x = new PostTurns();
        DUE.is("no game", x.done(0), -1);
        x.days(2);
        x.game(0);
        DUE.is("game -1", x.done(-1), -1);
        DUE.is("game 1", x.done(1), -1);
        DUE.is("not due", x.done(0), -2);
        x.days(6);
        DUE.is("not due", x.done(0), -2);
        x.days(1);
        DUE.is("due", x.done(0), 1);
        DUE.is("not due", x.done(0), -2);
        DUE.is("again: no game", x.again(1, 0), -1);
        DUE.is("again: game -1", x.again(-1, 0), -1);
        DUE.is("again: turn -1", x.again(0, -1), -1);
        DUE.is("again: turn 30", x.again(0, 30), -1);
        DUE.is("again: not done", x.again(0, 1), -2);
        DUE.is("again: not done", x.again(0, 29), -2);
        DUE.is("again", x.again(0, 0), 0);
    }

    private static void lateDoing() {
        PostTurns x = new PostTurns();
        x.game(0);
        x.holder(0, 0);
        x.piece(0, 0, 1);
        for (int i = 0; i < 4; i++) x.days(60);
        for (int t = 0; t < 30; t++) DUE.is("behind its day", x.done(0), t + 1);
        DUE.is("FULL", x.done(0), -3);
        DUE.is("coins", x.ofHolder(0, 1), 30);
        DUE.is("all again", x.again(0, 0), 0);
        DUE.is("times", x.ofGame(0, 3), 60);
        DUE.is("coins", x.ofHolder(0, 1), 30);
        DUE.is("FULL again", x.done(0), -3);
    }

    private static void strengths() {
        PostTurns x = made(2, 0, 0, 3, 1, 1, 2);
        tell(x, 0, 1, 1);
        next(x);
        stands("3 against 2", x, 1, 0, -2, 0);
        DUE.is("the cell of one gone", x.ofPiece(1, 1), 1);
        x = made(2, 0, 0, 2, 1, 1, 2);
        tell(x, 0, 1, 1);
        next(x);
        stands("2 against 2", x, 0, 3, 1, 0);
        x = made(2, 0, 0, 9, 1, 7, 8, 1, 2, 1);
        tell(x, 0, 1, 1);
        tell(x, 1, 1, 1);
        tell(x, 2, 1, 1);
        next(x);
        stands("three to one cell", x, 1, 0, 7, 1, 2, 1);
    }

    private static void helps() {
        // 0 in 0 goes to 1, where 3 of the other holder is; 1 in 2 helps it (beside 1).
        PostTurns x = made(2, 0, 0, 1, 0, 2, 2, 1, 1, 2);
        tell(x, 0, 1, 1);
        tell(x, 1, 2, 0);
        next(x);
        stands("helped", x, 1, 0, 2, 0, -2, 0);
        // The helper stands beside the piece, but not beside the cell where it goes.
        x = made(2, 0, 0, 1, 0, 6, 9, 1, 1, 1);
        tell(x, 0, 1, 1);
        tell(x, 1, 2, 0);
        next(x);
        stands("not beside the cell", x, 0, 3, 6, 0, 1, 0);
        // A hold is helped by one beside its cell, of any holder.
        x = made(3, 0, 0, 5, 1, 1, 2, 2, 2, 3, 1, 7, 1);
        tell(x, 0, 1, 1);
        tell(x, 2, 2, 1);
        next(x);
        stands("hold helped by another holder's", x, 0, 3, 1, 0, 2, 0, 7, 0);
        x = made(3, 0, 0, 5, 1, 1, 2, 2, 3, 9, 1, 7, 1);
        tell(x, 0, 1, 1);
        tell(x, 2, 2, 1);
        tell(x, 3, 2, 1);
        next(x);
        stands("one helper far away, one near", x, 1, 0, -2, 0, 3, 0, 7, 0);
        // A helper of a helper helps its hold, not what it helps.
        x = made(2, 0, 0, 2, 0, 2, 1, 0, 3, 9, 1, 1, 3);
        tell(x, 0, 1, 1);
        tell(x, 1, 2, 0);
        tell(x, 2, 2, 1);
        next(x);
        stands("help of help", x, 0, 3, 2, 0, 3, 0, 1, 0);
        // One whose move failed holds by its force alone: the help for its move is no help for its hold.
        x = made(3, 0, 7, 2, 0, 9, 5, 1, 8, 9, 2, 1, 3);
        tell(x, 0, 1, 8);
        tell(x, 1, 2, 0);
        tell(x, 3, 1, 7);
        next(x);
        stands("hold of a failed move", x, -2, 3, 9, 0, 8, 0, 7, 0);
    }

    private static void cuts() {
        // 0 to 1 against 2; 1 in 2 helps; 3 of the other holder goes to 2: cut, even by a weak one that fails.
        PostTurns x = made(2, 0, 0, 1, 0, 2, 5, 1, 1, 2, 1, 3, 1);
        tell(x, 0, 1, 1);
        tell(x, 1, 2, 0);
        tell(x, 3, 1, 2);
        next(x);
        stands("cut", x, 0, 3, 2, 0, 1, 0, 3, 3);
        // By one of the helper's own holder it is not cut.
        x = made(2, 0, 0, 1, 0, 2, 5, 1, 1, 2, 0, 3, 1);
        tell(x, 0, 1, 1);
        tell(x, 1, 2, 0);
        tell(x, 3, 1, 2);
        next(x);
        stands("not cut by its own", x, 1, 0, 2, 0, -2, 0, 3, 3);
        // The one against which the help goes cuts it, too.
        x = made(2, 0, 0, 1, 0, 2, 5, 1, 1, 2);
        tell(x, 0, 1, 1);
        tell(x, 1, 2, 0);
        tell(x, 2, 1, 2);
        next(x);
        stands("cut by the one it goes against", x, 0, 3, 2, 0, 1, 3);
        // One of the holder of the helped (but not of the helper) cuts it, too.
        x = made(3, 0, 0, 1, 2, 2, 5, 1, 1, 2, 0, 3, 1);
        tell(x, 0, 1, 1);
        tell(x, 1, 2, 0);
        tell(x, 3, 1, 2);
        next(x);
        stands("cut by the helped one's holder", x, 0, 3, 2, 0, 1, 0, 3, 3);
    }

    private static void crowds() {
        PostTurns x = made(3, 0, 0, 2, 1, 7, 2, 2, 2, 2);
        for (int p = 0; p < 3; p++) tell(x, p, 1, 1);
        next(x);
        stands("all alike", x, 0, 1, 7, 1, 2, 1);
        x = made(3, 0, 0, 3, 1, 7, 3, 2, 2, 2);
        for (int p = 0; p < 3; p++) tell(x, p, 1, 1);
        next(x);
        stands("the two greatest alike", x, 0, 1, 7, 1, 2, 1);
        x = made(3, 0, 0, 2, 1, 7, 2, 2, 2, 3);
        for (int p = 0; p < 3; p++) tell(x, p, 1, 1);
        next(x);
        stands("the two others alike", x, 0, 1, 7, 1, 1, 0);
        String[] text = {"p", "-p", "p=1", "p<2", "p>0", "z"};
        int[] winner = {2, 0, 1, -1, -1, -3};
        for (int i = 0; i < text.length; i++) {
            x = made(3, 0, 0, 2, 1, 7, 2, 2, 2, 2);
            Due.rule(x, 1, 0, text[i]);
            for (int p = 0; p < 3; p++) tell(x, p, 1, 1);
            next(x);
            int wins = winner[i] == -3 ? greatestDrawn(x) : winner[i];
            stands("tie by " + text[i], x, wins == 0 ? 1 : 0, wins == 0 ? 0 : 1, wins == 1 ? 1 : 7, wins == 1 ? 0 : 1,
                wins == 2 ? 1 : 2, wins == 2 ? 0 : 1);
        }
        // TIE counts only among like strengths.
        x = made(2, 0, 0, 3, 1, 7, 2);
        Due.rule(x, 1, 0, "p");
        tell(x, 0, 1, 1);
        tell(x, 1, 1, 1);
        next(x);
        stands("strength ahead of tie", x, 1, 0, 7, 1);
        // A cell to which two go in vain is held by nobody: it stays empty, and its piece stays.
        x = made(3, 0, 0, 2, 1, 7, 2, 2, 1, 1);
        tell(x, 0, 1, 1);
        tell(x, 1, 1, 1);
        next(x);
        stands("both fail against one", x, 0, 1, 7, 1, 1, 0);
    }

    private static int greatestDrawn(PostTurns x) {
        int a = x.drawn(0, 0), b = x.drawn(1, 0), c = x.drawn(2, 0);
        int most = Math.max(a, Math.max(b, c));
        int alike = (a == most ? 1 : 0) + (b == most ? 1 : 0) + (c == most ? 1 : 0);
        return alike > 1 ? -1 : a == most ? 0 : b == most ? 1 : 2;
    }

    private static void swaps() {
        PostTurns x = made(2, 0, 0, 2, 1, 1, 2);
        tell(x, 0, 1, 1);
        tell(x, 1, 1, 0);
        next(x);
        stands("like ones", x, 0, 2, 1, 2);
        x = made(2, 0, 0, 2, 1, 1, 3);
        tell(x, 0, 1, 1);
        tell(x, 1, 1, 0);
        next(x);
        stands("the greater goes", x, -2, 2, 0, 0);
        x = made(2, 0, 0, 2, 0, 1, 3);
        tell(x, 0, 1, 1);
        tell(x, 1, 1, 0);
        next(x);
        stands("of one holder", x, 0, 2, 1, 3);
        // One that is not FIRST is not of a pair: it failed by 1, and holds by its force.
        x = made(3, 0, 0, 2, 1, 1, 3, 2, 6, 4);
        tell(x, 0, 1, 1);
        tell(x, 1, 1, 0);
        tell(x, 2, 1, 0);
        next(x);
        stands("a third comes", x, -2, 3, 1, 1, 0, 0);
        // Helped by one of its own the weaker of a pair is the stronger.
        x = made(2, 0, 0, 2, 1, 1, 3, 0, 7, 2);
        tell(x, 0, 1, 1);
        tell(x, 1, 1, 0);
        tell(x, 2, 2, 0);
        next(x);
        stands("helped", x, 1, 0, -2, 2, 7, 0);
    }

    private static void chains() {
        PostTurns x = made(2, 0, 0, 1, 1, 1, 1, 0, 2, 1);
        tell(x, 0, 1, 1);
        tell(x, 1, 1, 2);
        tell(x, 2, 1, 3);
        next(x);
        stands("a file goes", x, 1, 0, 2, 0, 3, 0);
        x = made(3, 0, 0, 1, 1, 1, 1, 0, 2, 1, 2, 3, 1);
        tell(x, 0, 1, 1);
        tell(x, 1, 1, 2);
        tell(x, 2, 1, 3);
        next(x);
        stands("a file that cannot go", x, 0, 3, 1, 3, 2, 3, 3, 0);
        x = made(3, 0, 0, 5, 1, 1, 1, 0, 2, 1, 2, 3, 1);
        tell(x, 0, 1, 1);
        tell(x, 1, 1, 2);
        tell(x, 2, 1, 3);
        next(x);
        stands("the last is the strongest", x, 1, 0, -2, 3, 2, 3, 3, 0);
        x = made(2, 0, 0, 1, 1, 1, 1, 0, 7, 1, 1, 6, 1);
        tell(x, 0, 1, 1);
        tell(x, 1, 1, 7);
        tell(x, 2, 1, 6);
        tell(x, 3, 1, 0);
        next(x);
        stands("a ring goes", x, 1, 0, 7, 0, 6, 0, 0, 0);
        x = made(3, 0, 0, 1, 1, 1, 1, 0, 7, 1, 1, 6, 1, 2, 2, 1);
        tell(x, 0, 1, 1);
        tell(x, 1, 1, 7);
        tell(x, 2, 1, 6);
        tell(x, 3, 1, 0);
        tell(x, 4, 1, 1);
        next(x);
        stands("a ring that is stopped", x, 0, 1, 1, 3, 7, 3, 6, 3, 2, 1);
    }

    private static void ownPieces() {
        PostTurns x = made(2, 0, 0, 9, 0, 1, 1);
        tell(x, 0, 1, 1);
        next(x);
        stands("its own stays", x, 0, 3, 1, 0);
        x = made(2, 0, 0, 9, 0, 1, 1, 1, 2, 5);
        tell(x, 0, 1, 1);
        tell(x, 1, 1, 2);
        next(x);
        stands("its own fails", x, 0, 3, 1, 3, 2, 0);
        x = made(2, 0, 0, 9, 0, 1, 1);
        tell(x, 0, 1, 1);
        tell(x, 1, 1, 2);
        next(x);
        stands("its own goes", x, 1, 0, 2, 0);
    }

    private static void goneOnes() {
        PostTurns x = made(2, 0, 0, 3, 1, 1, 2, 1, 2, 1);
        int move = tell(x, 0, 1, 1);
        tell(x, 1, 1, 7);
        x.turn(2, 7, 0);
        int help = tell(x, 2, 2, 1);
        x.turn(3, 5, 0);
        tell(x, 1, 0, 0);
        int stay = x.count(8) - 1;
        x.turn(3, 9, 0);
        x.days(7);
        DUE.is("its help holds", x.done(0), 1);
        stands("held by a help", x, 0, 3, 1, 0, 2, 0);
        DUE.is("led by", x.ofPiece(0, 4), move);
        DUE.is("led by", x.ofPiece(1, 4), stay);
        DUE.is("led by", x.ofPiece(2, 4), help);
        cards(x, 2);
        tell(x, 0, 1, 1);
        tell(x, 2, 1, 3);
        next(x);
        stands("gone", x, 1, 0, -2, 0, 3, 0);
        DUE.is("led in the turn in which it went", x.ofPiece(1, 4), stay);
        DUE.is("none of one gone", x.orderOf(1), -1);
        DUE.is("a help of one gone cannot be", x.orderOf(2), -1);
        DUE.is("there", x.count(3), 2);
        DUE.is("there of its holder", x.ofHolder(1, 4), 1);
        cards(x, 2);
        DUE.is("none can be told of it", tell(x, 1, 0, 0), -1);
        DUE.is("nor helped", tell(x, 2, 2, 1), -1);
        DUE.is("its cell is free for an if", tell(x, 2, 1, 4), x.count(8) - 1);
        tell(x, 0, 1, 7);
        next(x);
        stands("on", x, 7, 0, -2, 0, 4, 0);
        DUE.is("led none", x.ofPiece(1, 4), -1);
        DUE.is("its cell stays", x.ofPiece(1, 1), 1);
    }

    private static void coins() {
        PostTurns x = new PostTurns();
        x.game(0);
        x.holder(0, 5);
        x.holder(0, 6);
        x.holder(0, 7);
        x.cell(1, 0, 9);
        x.cell(2, 0, 0);
        x.piece(0, 0, 3);
        x.piece(1, 1, 2);
        x.piece(1, 2, 2);
        x.piece(2, 20, 2);
        x.drops(2, -1);
        x.card(0, 0, 0);
        x.order(0, 0, 1, 1);
        next(x);
        DUE.is("value of the cell where it went", x.ofHolder(0, 1), 14);
        DUE.is("nothing for one gone", x.ofHolder(1, 1), 6);
        DUE.is("nothing for one who dropped", x.ofHolder(2, 1), 7);
    }

    /** The same orders told in two sequences leave the same state. */
    private static void sameWhicheverCame() {
        int[] pieces = {0, 0, 3, 1, 1, 2, 0, 7, 1, 2, 2, 2, 1, 13, 4, 2, 8, 1};
        int[][] orders = {{0, 1, 1}, {1, 1, 2}, {2, 2, 0}, {3, 1, 1}, {4, 1, 7}, {5, 2, 3}};
        PostTurns a = made(3, pieces);
        PostTurns b = made(3, pieces);
        Due.rule(a, 1, 0, "z");
        Due.rule(b, 1, 0, "z");
        for (int i = 0; i < 6; i++) {
            tell(a, orders[i][0], orders[i][1], orders[i][2]);
            tell(b, orders[5 - i][0], orders[5 - i][1], orders[5 - i][2]);
        }
        next(a);
        next(b);
        for (int p = 0; p < 6; p++) {
            for (int what = 0; what < 6; what++) {
                if (what != 4) DUE.is("either way, piece " + p, a.ofPiece(p, what), b.ofPiece(p, what));
            }
        }
    }

    private static void againByRules() {
        PostTurns x = made(2, 0, 0, 3, 1, 1, 2);
        Due.rule(x, 0, 0, "1");
        tell(x, 0, 1, 1);
        tell(x, 1, 0, 0);
        next(x);
        next(x);
        DUE.is("coins", x.ofHolder(0, 1), 2);
        DUE.is("coins", x.ofHolder(1, 1), 0);
        Due.rule(x, 0, 0, "o<1");
        Due.rule(x, 4, 1, "w*10");
        DUE.is("from turn 1 the moves stay", x.again(0, 1), 0);
        DUE.is("by the fee", x.ofHolder(0, 1), 1 + 1 - 10);
        DUE.is("owed", x.ofHolder(0, 5), 10);
        stands("it was gone ahead", x, 1, 0, -2, 0);
        DUE.is("from turn 0 two stand otherwise", x.again(0, 0), 2);
        stands("no move", x, 0, 0, 1, 0);
        DUE.is("by the fee", x.ofHolder(1, 1), 1 + 1 - 10);
        DUE.is("was", x.was(1, 0), 1);
        DUE.is("check", x.check(0), 0);
        DUE.is("once more, none", x.again(0, 0), 0);
        DUE.is("times", x.ofGame(0, 3), 2 + 1 + 2 + 2);
        DUE.is("turn", x.ofGame(0, 0), 2);
    }

    /** An order told behind its turn (its card was sent ahead of it, on the same day) counts for AGAIN. */
    private static void againByOrders() {
        PostTurns x = new PostTurns();
        x.game(0);
        x.holder(0, 0);
        x.piece(0, 0, 3);
        x.days(7);
        x.card(0, 0, 0);
        x.done(0);
        DUE.is("an order behind", x.order(0, 0, 1, 6), 0);
        DUE.is("of this turn none", x.orderOf(0), -1);
        DUE.is("it is elsewhere", x.again(0, 0), 1);
        DUE.is("it went", x.ofPiece(0, 1), 6);
        DUE.is("led", x.ofPiece(0, 4), 0);
        DUE.is("now a deal", x.turn(4, 1, 0), 4);
        DUE.is("elsewhere again", x.again(0, 0), 1);
        DUE.is("it stayed", x.ofPiece(0, 1), 0);
        DUE.is("led", x.ofPiece(0, 4), -1);
    }

    private static void againCounts() {
        PostTurns x = made(2, 0, 0, 3, 1, 1, 2, 1, 20, 1, 0, 40, 1);
        tell(x, 0, 1, 1);
        tell(x, 2, 1, 21);
        tell(x, 3, 0, 0);
        next(x);
        Due.rule(x, 0, 0, "p");
        DUE.is("one is elsewhere, one is not gone", x.again(0, 0), 2);
        Due.rule(x, 0, 0, "p=0");
        DUE.is("three", x.again(0, 0), 3);
        x.game(5);
        x.holder(1, 0);
        x.piece(2, 20, 1);
        DUE.is("of its game alone", x.again(0, 0), 0);
    }

    /** One that is GONE ahead of AGAIN and behind it does not count, in whichever cell it went. */
    private static void againGone() {
        PostTurns x = made(3, 0, 0, 1, 1, 12, 2, 1, 1, 2, 2, 40, 1);
        tell(x, 0, 1, 6);
        next(x);
        cards(x, 3);
        tell(x, 1, 1, 6);
        tell(x, 2, 1, 0);
        next(x);
        stands("gone in 6", x, -2, 0, 6, 0, 0, 0, 40, 0);
        DUE.is("where it was", x.ofPiece(0, 1), 6);
        Due.rule(x, 0, 0, "p");
        DUE.is("gone in 6, gone in 0: none", x.again(0, 0), 0);
        stands("gone in 0", x, -2, 0, 6, 0, 0, 0, 40, 0);
        DUE.is("where it was", x.ofPiece(0, 1), 0);
        DUE.is("it stayed in the first turn", x.was(0, 0), 0);
        Due.rule(x, 0, 0, "1");
        DUE.is("gone in 0, gone in 6: none", x.again(0, 0), 0);
        DUE.is("where it was", x.ofPiece(0, 1), 6);
        Due.rule(x, 0, 1, "p-1");
        DUE.is("not gone, and one elsewhere", x.again(0, 0), 2);
        stands("the one in 12 may not go", x, 6, 0, 12, 0, 0, 0, 40, 0);
        Due.rule(x, 0, 0, "p");
        DUE.is("gone in 0, and one elsewhere", x.again(0, 0), 2);
        stands("gone in 0", x, -2, 0, 6, 0, 0, 0, 40, 0);
    }

    /** One that goes and comes back by AGAIN counts each time, in the same cell, too; and one there in another cell. */
    private static void againBackAndForth() {
        PostTurns x = made(2, 0, 0, 3, 1, 1, 2);
        tell(x, 0, 1, 1);
        next(x);
        stands("gone in 1", x, 1, 0, -2, 0);
        Due.rule(x, 0, 0, "0");
        DUE.is("one elsewhere, one there in the cell where it was", x.again(0, 0), 2);
        stands("both stay", x, 0, 0, 1, 0);
        Due.rule(x, 0, 0, "1");
        DUE.is("one elsewhere, one gone in the cell where it was", x.again(0, 0), 2);
        stands("gone in 1", x, 1, 0, -2, 0);
        DUE.is("as they were", x.again(0, 0), 0);
        next(x);
        DUE.is("gone a turn ahead, the moves stay", x.again(0, 1), 0);
        DUE.is("gone then, too", x.again(0, 0), 0);
    }

    private static void againAndDrops() {
        PostTurns x = made(2, 0, 0, 3, 1, 30, 2);
        int standing = tell(x, 0, 0, 0);
        x.turn(3, 5, 0);
        next(x);
        cards(x, 2);
        tell(x, 0, 1, 1);
        next(x);
        x.drops(0, 1);
        next(x);
        DUE.is("coins of two turns", x.ofHolder(0, 1), 2);
        DUE.is("again as it had not dropped", x.again(0, 0), 0);
        DUE.is("coins of two turns", x.ofHolder(0, 1), 2);
        DUE.is("led by its standing one", x.ofPiece(0, 4), standing);
        DUE.is("was", x.was(0, 1), 1);
        DUE.is("check", x.check(0), 0);
    }

    /** A deal with an order of another game is judged by what is in that game now, in AGAIN, too. */
    private static void againDeals() {
        PostTurns x = made(1, 0, 0, 3);
        x.game(9);
        x.holder(1, 0);
        x.piece(1, 0, 2);
        x.card(1, 1, 0);
        x.order(0, 0, 1, 1);
        x.turn(4, 1, 0);
        x.order(1, 1, 1, 6);
        x.turn(4, 0, 0);
        x.days(7);
        DUE.is("done", x.done(0), 1);
        DUE.is("it goes through", x.ofPiece(0, 1), 1);
        DUE.is("the other is in that cell now", x.orderOf(1), -1);
        DUE.is("done", x.done(1), 1);
        DUE.is("it stayed", x.ofPiece(1, 1), 0);
        DUE.is("led", x.ofPiece(1, 4), -1);
        DUE.is("again it goes through", x.again(0, 0), 0);
        DUE.is("led", x.ofPiece(0, 4), 0);
        Due.rule(x, 0, 0, "0");
        DUE.is("again it may not be", x.again(0, 0), 1);
        DUE.is("nor does the other's", x.again(1, 0), 0);
        Due.rule(x, 0, 0, "1");
        DUE.is("the one is where it began, the other's goes through", x.again(1, 0), 1);
        DUE.is("it went", x.ofPiece(1, 1), 6);
        DUE.is("led", x.ofPiece(1, 4), 1);
    }

    private static void was() {
        PostTurns x = made(2, 0, 0, 3, 1, 1, 2);
        DUE.is("no turn was done", x.was(0, 0), -1);
        tell(x, 0, 1, 1);
        next(x);
        DUE.is("where it went", x.was(0, 0), 1);
        DUE.is("gone", x.was(1, 0), -2);
        DUE.is("not done", x.was(0, 1), -1);
        DUE.is("turn -1", x.was(0, -1), -1);
        DUE.is("turn 30", x.was(0, 30), -1);
        DUE.is("no piece", x.was(2, 0), -1);
        DUE.is("piece -1", x.was(-1, 0), -1);
        cards(x, 2);
        tell(x, 0, 1, 2);
        next(x);
        DUE.is("then", x.was(0, 0), 1);
        DUE.is("then", x.was(0, 1), 2);
        DUE.is("still gone", x.was(1, 1), -2);
    }
}

/** Promises 17 to 23: cards on the way, orders told and read, THE ORDER of a piece. */
public final class CardsTest {
    private static final Due DUE = new Due("CardsTest");
    private static final int VOID = -2000000000;

    public static void main(String[] args) {
        sending();
        turnsOfCards();
        late();
        orders();
        kinds();
        reading();
        readingEnds();
        theOrder();
        may();
        ifs();
        standing();
        deals();
        dealsOfGames();
        dropped();
        full();
        DUE.end();
    }

    /** A game with two holders, each with two pieces: 0 in cell 0, 1 in 1 of the one; 2 in 24, 3 in 31 of the other. */
    private static PostTurns two() {
        PostTurns x = new PostTurns();
        x.game(9);
        x.holder(0, 10);
        x.holder(0, 20);
        x.piece(0, 0, 3);
        x.piece(0, 1, 2);
        x.piece(1, 24, 3);
        x.piece(1, 31, 2);
        return x;
    }

    private static void sending() {
        PostTurns x = two();
        x.game(1);
        x.holder(1, 0);
        DUE.is("no holder", x.card(3, 3, 0), -1);
        DUE.is("for no holder", x.card(0, 3, 0), -1);
        DUE.is("holder -1", x.card(-1, -1, 0), -1);
        DUE.is("for another", x.card(0, 1, 0), -1);
        DUE.is("way -1", x.card(0, 0, -1), -1);
        DUE.is("way 10", x.card(0, 0, 10), -1);
        x.drops(1, -1);
        DUE.is("for one who dropped without a proxy", x.card(0, 1, 0), -1);
        DUE.is("that none is no holder", x.card(-1, 1, 0), -1);
        x.drops(0, 1);
        DUE.is("its proxy", x.card(1, 0, 9), 0);
        DUE.is("not its proxy", x.card(2, 0, 0), -1);
        DUE.is("one who dropped, itself", x.card(0, 0, 0), 1);
        DUE.is("holder", x.ofCard(0, 0), 1);
        DUE.is("for whom", x.ofCard(0, 1), 0);
        DUE.is("in", x.ofCard(0, 2), 9);
        DUE.is("what 6", x.ofCard(0, 6), -1);
        DUE.is("what -1", x.ofCard(0, -1), -1);
        DUE.is("no card", x.ofCard(2, 0), -1);
        DUE.is("card -1", x.ofCard(-1, 3), -1);
        for (int i = 2; i < 150; i++) DUE.is("card", x.card(2, 2, 1), i);
        DUE.is("FULL", x.card(2, 2, 1), -3);
        DUE.is("BAD ahead of FULL", x.card(2, 2, 10), -1);
        DUE.is("count", x.count(7), 150);
    }

    private static void ofTurn(PostTurns x, int card, int turn, int late, int counts) {
        DUE.is("turn of card " + card, x.ofCard(card, 3), turn);
        DUE.is("late of card " + card, x.ofCard(card, 4), late);
        DUE.is("card counts " + card, x.ofCard(card, 5), counts);
    }

    private static void turnsOfCards() {
        PostTurns x = two();
        x.card(0, 0, 7);
        x.card(0, 0, 8);
        x.days(6);
        x.card(0, 0, 1);
        x.card(0, 0, 8);
        x.card(0, 0, 9);
        ofTurn(x, 0, 0, 0, 1);
        ofTurn(x, 1, 1, 1, 1);
        ofTurn(x, 2, 0, 0, 1);
        ofTurn(x, 3, 1, 1, 1);
        ofTurn(x, 4, 2, 1, 1);
        x.days(1);
        x.card(0, 0, 0);
        ofTurn(x, 5, 0, 0, 1);
        x.done(0);
        x.card(0, 0, 0);
        x.card(0, 0, 8);
        ofTurn(x, 6, 1, 0, 1);
        ofTurn(x, 7, 2, 1, 1);
        ofTurn(x, 5, 0, 0, 1);
        x.days(60);
        x.card(0, 0, 0);
        // Day 67: of the turns not done the first that is due then or behind is 9, on day 70.
        ofTurn(x, 8, 9, 1, 1);
        for (int i = 0; i < 2; i++) x.days(60);
        x.days(22);
        x.card(0, 0, 1);
        ofTurn(x, 9, 29, 1, 1);
        x.card(0, 0, 2);
        DUE.is("no turn is left", x.ofCard(10, 3), -2);
        DUE.is("not late", x.ofCard(10, 4), 0);
        DUE.is("counts for none", x.ofCard(10, 5), 0);
        DUE.is("in", x.ofCard(10, 2), 211);
        x.order(10, 0, 0, 0);
        x.turn(3, 29, 0);
        DUE.is("nor a standing order on it", x.orderOf(0), -1);
        for (int t = 1; t < 29; t++) x.done(0);
        DUE.is("turn 29 is not done yet", x.orderOf(0), -1);
    }

    /** LATE: of the turn it was sent in, as known on the day when it is in; t and h alone are so. */
    private static void late() {
        PostTurns x = two();
        x.days(5);
        x.card(1, 1, 3);
        x.card(0, 0, 3);
        x.card(0, 0, 2);
        ofTurn(x, 0, 1, 1, 1);
        Due.rule(x, 3, 0, "h=1&t=0&p+f+c+o+d+v+n+z+w=0");
        ofTurn(x, 0, 1, 1, 1);
        ofTurn(x, 1, 1, 1, 0);
        ofTurn(x, 2, 0, 0, 1);
        Due.rule(x, 3, 1, "h=0");
        ofTurn(x, 0, 1, 1, 1);
        x.days(3);
        Due.rule(x, 3, 0, "h=0");
        DUE.is("made on the day when it is in", x.ofCard(0, 5), 0);
        DUE.is("made on the day when it is in", x.ofCard(1, 5), 1);
        x.days(1);
        Due.rule(x, 3, 0, "h=1");
        DUE.is("made behind that day", x.ofCard(0, 5), 0);
        DUE.is("made behind that day", x.ofCard(1, 5), 1);
        DUE.is("no order on a card of another day", x.order(0, 2, 0, 0), -4);
        x.done(0);
        x.card(1, 1, 0);
        ofTurn(x, 3, 1, 0, 1);
        DUE.is("order", x.order(3, 2, 1, 25), 0);
        x.card(0, 0, 8);
        DUE.is("order on a late card", x.order(4, 0, 0, 0), 1);
        ofTurn(x, 4, 2, 1, 0);
    }

    private static void orders() {
        PostTurns x = two();
        x.game(1);
        x.holder(1, 0);
        x.piece(2, 10, 1);
        DUE.is("no card", x.order(0, 0, 0, 0), -1);
        x.card(0, 0, 0);
        DUE.is("card -1", x.order(-1, 0, 0, 0), -1);
        DUE.is("no piece", x.order(0, 5, 0, 0), -1);
        DUE.is("piece -1", x.order(0, -1, 0, 0), -1);
        DUE.is("of another holder", x.order(0, 2, 0, 0), -1);
        DUE.is("what 3", x.order(0, 0, 3, 0), -1);
        DUE.is("what -1", x.order(0, 0, -1, 0), -1);
        DUE.is("cell 48", x.order(0, 0, 1, 48), -1);
        DUE.is("cell -1", x.order(0, 0, 1, -1), -1);
        DUE.is("helps itself", x.order(0, 0, 2, 0), -1);
        DUE.is("helps none", x.order(0, 0, 2, 5), -1);
        DUE.is("helps one of another game", x.order(0, 0, 2, 4), -1);
        DUE.is("stays", x.order(0, 0, 0, 12345), 0);
        DUE.is("moves to any cell", x.order(0, 0, 1, 47), 1);
        DUE.is("helps one of another holder", x.order(0, 0, 2, 3), 2);
        int[] want = {1, 0, 0, 0, 12345, -1, -1};
        for (int what = 0; what < 7; what++) DUE.is("ofOrder " + what, x.ofOrder(0, what), want[what]);
        DUE.is("what", x.ofOrder(2, 3), 2);
        DUE.is("piece helped", x.ofOrder(2, 4), 3);
        DUE.is("cell", x.ofOrder(1, 4), 47);
        DUE.is("what 7", x.ofOrder(0, 7), VOID);
        DUE.is("what -1", x.ofOrder(0, -1), VOID);
        DUE.is("no order", x.ofOrder(3, 0), VOID);
        DUE.is("order -1", x.ofOrder(-1, 0), VOID);
        x.days(1);
        DUE.is("sent earlier", x.order(0, 0, 0, 0), -4);
        DUE.is("BAD ahead of STATE", x.order(0, 0, 1, 48), -1);
    }

    private static void kinds() {
        PostTurns x = two();
        DUE.is("BAD ahead of none", x.turn(1, 0, 0), -1);
        DUE.is("none", x.turn(3, 0, 0), -4);
        x.card(0, 0, 0);
        x.order(0, 0, 0, 0);
        int[][] bad = {{0, 0, 0}, {1, 0, 0}, {5, 0, 0}, {6, 0, 0}, {-1, 0, 0}, {2, 48, 0}, {2, -1, 0}, {2, 0, 2}, {2, 0, -1},
            {3, 30, 0}, {3, -1, 0}, {4, 300, 0}, {4, -1, 0}, {4, 0, 0}};
        for (int[] b : bad) DUE.is("turn " + b[0] + " " + b[1] + " " + b[2], x.turn(b[0], b[1], b[2]), -1);
        DUE.is("kind stays", x.ofOrder(0, 0), 1);
        DUE.is("an if", x.turn(2, 47, 0), 2);
        DUE.is("first", x.ofOrder(0, 5), 47);
        DUE.is("second", x.ofOrder(0, 6), 0);
        DUE.is("of another kind", x.turn(2, 47, 0), -4);
        DUE.is("BAD ahead of STATE", x.turn(2, 48, 0), -1);
        x.order(0, 0, 0, 0);
        DUE.is("standing", x.turn(3, 29, 77), 3);
        DUE.is("first", x.ofOrder(1, 5), 29);
        DUE.is("no second", x.ofOrder(1, 6), -1);
        x.order(0, 0, 0, 0);
        DUE.is("a deal", x.turn(4, 299, 77), 4);
        DUE.is("first", x.ofOrder(2, 5), 299);
        DUE.is("no second", x.ofOrder(2, 6), -1);
        x.order(0, 0, 0, 0);
        x.days(1);
        DUE.is("sent earlier", x.turn(3, 29, 0), -4);
        x.drops(0, 1);
        x.card(1, 0, 0);
        x.order(1, 0, 0, 0);
        DUE.is("an if of a proxy", x.turn(2, 0, 1), 2);
        x.order(1, 0, 0, 0);
        DUE.is("a standing one of a proxy", x.turn(3, 4, 0), 5);
        DUE.is("first", x.ofOrder(5, 5), 4);
        DUE.is("kind", x.ofOrder(5, 0), 5);
        DUE.is("the proxy's own piece is not of the card", x.order(1, 2, 0, 0), -1);
    }

    private static void fill(PostTurns x, int shelf, int... bytes) {
        x.row(shelf, 0, bytes.length);
        for (int i = 0; i < bytes.length; i++) x.put(shelf, i, bytes[i]);
    }

    private static void reading() {
        PostTurns x = two();
        x.cell(6, 1, 1);
        x.game(1);
        x.holder(1, 0);
        x.piece(2, 10, 1);
        x.card(0, 0, 0);
        fill(x, 0, 0, 0, -7, 0, 1, 1, 7, 0, 0, 2, 3, 0);
        DUE.is("three that are so", x.read(0, 0, 0, 3), 3);
        int[][] want = {{1, 0, 0, 0, -7, -1, -1}, {1, 0, 1, 1, 7, -1, -1}, {1, 0, 0, 2, 3, -1, -1}};
        for (int o = 0; o < 3; o++) {
            for (int w = 0; w < 7; w++) DUE.is("read order " + o + " " + w, x.ofOrder(o, w), want[o][w]);
        }
        int[][] wrong = {{0, 0, 0, 1}, {0, 0, 0, -1}, {2, 0, 0, 0}, {4, 0, 0, 0}, {5, 0, 0, 0}, {-1, 0, 0, 0}, {0, 3, 0, 0},
            {0, -1, 0, 0}, {0, 1, 7, 0}, {0, 1, 6, 0}, {0, 1, 0, 0}, {0, 1, 48, 0}, {0, 1, -1, 0}, {1, 1, 6, 0}, {0, 2, 0, 0},
            {0, 2, 4, 0}, {0, 2, 5, 0}, {0, 2, -1, 0}};
        int made = 3;
        int[] asWrong = {6, 0, -1, 0, 0, -1, -1};
        for (int[] four : wrong) {
            fill(x, 0, four);
            DUE.is("a wrong one", x.read(0, 0, 0, 1), 1);
            for (int w = 0; w < 7; w++) DUE.is("wrong " + four[0] + " " + four[1] + " " + four[2] + " " + four[3],
                x.ofOrder(made, w), asWrong[w]);
            made++;
        }
        DUE.is("count", x.count(8), made);
        DUE.is("a wrong one is of its kind", x.turn(3, 5, 0), -4);
        fill(x, 0, 0, 1, 1, 0);
        DUE.is("one more", x.read(0, 0, 0, 1), 1);
        DUE.is("becomes an if", x.turn(2, 5, 1), 2);
    }

    private static void readingEnds() {
        PostTurns x = two();
        x.card(0, 0, 0);
        fill(x, 0, 0, 0, 0, 0, 1, 0, 0, 0, 0, 0);
        DUE.is("no card", x.read(1, 0, 0, 1), -1);
        DUE.is("shelf 6", x.read(0, 6, 0, 1), -1);
        DUE.is("shelf -1", x.read(0, -1, 0, 1), -1);
        DUE.is("n 0", x.read(0, 0, 0, 0), -1);
        DUE.is("n 16", x.read(0, 0, 0, 16), -1);
        DUE.is("nothing", x.read(0, 5, 0, 1), 0);
        DUE.is("ahead of the row", x.read(0, 0, -1, 15), 0);
        DUE.is("ahead of the row", x.read(0, 0, Integer.MIN_VALUE, 15), 0);
        DUE.is("at its end", x.read(0, 0, 10, 15), 0);
        DUE.is("behind it", x.read(0, 0, 11, 15), 0);
        DUE.is("far behind it", x.read(0, 0, Integer.MAX_VALUE, 15), 0);
        DUE.is("no orders", x.count(8), 0);
        DUE.is("a part of a four", x.read(0, 0, 9, 15), 1);
        DUE.is("wrong", x.ofOrder(0, 0), 6);
        DUE.is("three of a four", x.read(0, 0, 7, 1), 1);
        DUE.is("wrong", x.ofOrder(1, 0), 6);
        DUE.is("the last four", x.read(0, 0, 6, 2), 1);
        DUE.is("n fours", x.read(0, 0, 0, 2), 2);
        DUE.is("and a part", x.read(0, 0, 0, 3), 3);
        DUE.is("an empty row", x.row(1, 0, 0) + x.read(0, 1, 0, 3), 1);
        for (int sort = 1; sort < 5; sort++) {
            x.row(1, sort, 8);
            DUE.is("a row of sort " + sort, x.read(0, 1, 0, 1), -12);
        }
        x.keep(1, 0);
        DUE.is("an order", x.read(0, 1, 0, 1), -12);
        DUE.is("BAD ahead", x.read(0, 1, 0, 99), -1);
        x.days(1);
        DUE.is("STATE ahead of -12", x.read(0, 1, 0, 1), -4);
        DUE.is("BAD ahead of STATE", x.read(0, 1, 0, 0), -1);
    }

    private static void theOrder() {
        PostTurns x = two();
        x.cell(30, 1, 1);
        DUE.is("no piece", x.orderOf(4), VOID);
        DUE.is("piece -1", x.orderOf(-1), VOID);
        DUE.is("none", x.orderOf(2), -1);
        x.card(1, 1, 9);
        x.order(0, 2, 0, 0);
        DUE.is("a card for the next turn", x.orderOf(2), -1);
        x.card(1, 1, 7);
        x.order(1, 2, 1, 25);
        DUE.is("a card on the way", x.orderOf(2), 1);
        x.order(1, 2, 1, 26);
        DUE.is("not beside", x.orderOf(2), 1);
        x.order(1, 2, 1, 30);
        DUE.is("a wall", x.orderOf(2), 1);
        x.order(1, 2, 1, 24);
        DUE.is("its own cell", x.orderOf(2), 1);
        // 23 and 24 differ by 1 as numbers, but are in other columns.
        x.order(1, 2, 1, 23);
        DUE.is("not beside", x.orderOf(2), 1);
        x.order(1, 2, 1, 18);
        DUE.is("the greatest", x.orderOf(2), 6);
        x.order(1, 3, 2, 2);
        DUE.is("a help", x.orderOf(3), 7);
        x.order(1, 3, 2, 0);
        DUE.is("a help of one far away", x.orderOf(3), 8);
        x.days(7);
        x.done(0);
        DUE.is("it went", x.ofPiece(2, 1), 18);
        DUE.is("the next turn", x.orderOf(2), 0);
        DUE.is("of this turn none", x.orderOf(3), -1);
    }

    private static void may() {
        PostTurns x = two();
        x.card(1, 1, 0);
        x.order(0, 2, 0, 0);
        x.order(0, 2, 2, 3);
        x.order(0, 2, 1, 25);
        x.order(0, 3, 0, 0);
        x.cell(25, 0, 6);
        String[] never = {"0", "t", "p=3", "f<3", "h=0", "c=25", "z", "n=1", "w<20", "!d", "v=9"};
        for (String text : never) {
            Due.rule(x, 0, 0, text);
            DUE.is("not by " + text, x.orderOf(2), -1);
        }
        String[] one = {"o=1", "d=25", "v=6", "o=1&p=2&f=3&h=1&c=24&d=25&v=6&n=2&z=0&w=20&t=0"};
        for (int i = 0; i < 4; i++) {
            Due.rule(x, 0, 0, one[i]);
            DUE.is("the move by " + one[i], x.orderOf(2), 2);
        }
        Due.rule(x, 0, 0, "o=2&d=24&v=1");
        DUE.is("the help", x.orderOf(2), 1);
        Due.rule(x, 0, 0, "!o&d=24&v=1");
        DUE.is("the stay", x.orderOf(2), 0);
        Due.rule(x, 0, 1, "0");
        DUE.is("of the next turn", x.orderOf(2), 0);
        DUE.is("any worth but 0", Due.rule(x, 0, 0, "-5"), 18);
        DUE.is("any worth but 0", x.orderOf(2), 2);
    }

    private static void ifs() {
        PostTurns x = two();
        x.game(1);
        x.holder(1, 0);
        x.piece(2, 40, 1);
        x.card(0, 0, 0);
        x.order(0, 0, 0, 0);
        x.order(0, 0, 1, 6);
        x.turn(2, 24, 1);
        DUE.is("a piece is there", x.orderOf(0), 0);
        x.order(0, 0, 1, 6);
        x.turn(2, 24, 0);
        DUE.is("not empty", x.orderOf(0), 2);
        x.order(0, 0, 0, 0);
        x.turn(2, 40, 0);
        DUE.is("a piece of another game is not there", x.orderOf(0), 2);
        x.order(0, 0, 0, 0);
        x.turn(2, 40, 1);
        DUE.is("empty", x.orderOf(0), 4);
        x.order(0, 0, 0, 0);
        x.turn(2, 0, 0);
        DUE.is("its own cell", x.orderOf(0), 5);
    }

    private static void standing() {
        PostTurns x = two();
        x.card(0, 0, 9);
        x.order(0, 0, 1, 6);
        x.turn(3, 3, 0);
        x.order(0, 1, 0, 0);
        x.turn(3, 0, 0);
        DUE.is("not ahead of its turn", x.orderOf(0), -1);
        x.days(60);
        x.done(0);
        DUE.is("in its turn", x.orderOf(0), 0);
        DUE.is("till a turn ahead of its own", x.orderOf(1), -1);
        x.done(0);
        DUE.is("it went", x.ofPiece(0, 1), 6);
        DUE.is("its cell is not beside itself", x.orderOf(0), -1);
        x.card(0, 0, 0);
        x.order(1, 0, 1, 0);
        DUE.is("late by many turns", x.orderOf(0), -1);
        PostTurns y = two();
        y.card(0, 0, 0);
        y.order(0, 1, 2, 0);
        y.turn(3, 2, 0);
        y.days(60);
        for (int t = 0; t < 4; t++) {
            DUE.is("in turn " + t, y.orderOf(1), t <= 2 ? 0 : -1);
            y.done(0);
            DUE.is("led in turn " + t, y.ofPiece(1, 4), t <= 2 ? 0 : -1);
        }
    }

    private static void deals() {
        PostTurns x = two();
        x.card(0, 0, 0);
        x.card(1, 1, 0);
        x.order(0, 0, 1, 6);
        DUE.is("a deal with one still to come", x.turn(4, 1, 0), 4);
        DUE.is("not told yet", x.orderOf(0), -1);
        x.order(1, 2, 1, 26);
        DUE.is("no deal yet", x.orderOf(0), -1);
        x.turn(4, 0, 0);
        DUE.is("the other cannot be", x.orderOf(0), -1);
        DUE.is("nor counts itself", x.orderOf(2), -1);
        x.order(0, 0, 1, 6);
        x.turn(4, 3, 0);
        x.order(1, 2, 1, 25);
        x.turn(4, 0, 0);
        DUE.is("the other names another", x.orderOf(0), -1);
        x.order(0, 0, 1, 6);
        x.turn(4, 5, 0);
        x.order(1, 2, 1, 25);
        x.turn(4, 4, 0);
        DUE.is("both say so", x.orderOf(0), 4);
        DUE.is("both say so", x.orderOf(2), 5);
        x.order(1, 2, 0, 0);
        DUE.is("the other gets another order", x.orderOf(2), 6);
        DUE.is("it goes through yet", x.orderOf(0), 4);
        Due.rule(x, 0, 0, "!(p=2&o=1)");
        DUE.is("the other may not be", x.orderOf(0), -1);
        Due.rule(x, 0, 0, "1");
        DUE.is("may be", x.orderOf(0), 4);
        x.card(1, 1, 8);
        x.order(0, 0, 0, 0);
        x.turn(4, 8, 0);
        x.order(2, 2, 0, 0);
        x.turn(4, 7, 0);
        DUE.is("the other is of another turn", x.orderOf(0), 4);
    }

    /** A deal with an order of another game: it counts by its own game's cells, walls and rules. */
    private static void dealsOfGames() {
        PostTurns x = two();
        x.game(1);
        x.holder(1, 5);
        x.piece(2, 0, 1);
        x.card(0, 0, 0);
        x.card(2, 2, 0);
        x.order(0, 0, 1, 6);
        x.turn(4, 1, 0);
        x.order(1, 4, 1, 1);
        x.turn(4, 0, 0);
        DUE.is("both say so", x.orderOf(0), 0);
        DUE.is("both say so", x.orderOf(4), 1);
        Due.rule(x, 10, 0, "w=9");
        DUE.is("not by the other game's rule", x.orderOf(0), -1);
        Due.rule(x, 10, 0, "w=5&c=0&d=1&t=0");
        DUE.is("by the other game's rule", x.orderOf(0), 0);
        x.cell(101, 1, 1);
        DUE.is("a wall of the other game", x.orderOf(0), -1);
        x.cell(101, 1, 0);
        x.drops(2, -1);
        DUE.is("of a holder that dropped", x.orderOf(0), -1);
        x.days(7);
        x.done(0);
        DUE.is("it stayed", x.ofPiece(0, 1), 0);
        DUE.is("by none", x.ofPiece(0, 4), -1);
    }

    private static void dropped() {
        PostTurns x = two();
        x.card(0, 0, 0);
        x.order(0, 0, 0, 0);
        x.turn(3, 9, 0);
        x.card(0, 0, 8);
        x.order(1, 0, 0, 0);
        x.turn(3, 9, 0);
        x.order(1, 1, 0, 0);
        DUE.is("in turn 0", x.orderOf(0), 0);
        x.days(7);
        x.done(0);
        DUE.is("in turn 1", x.orderOf(0), 1);
        DUE.is("in turn 1", x.orderOf(1), 2);
        x.drops(0, 1);
        DUE.is("standing for a turn ahead of that in which it dropped", x.orderOf(0), 0);
        DUE.is("no own order of that turn", x.orderOf(1), -1);
        x.card(0, 0, 0);
        x.order(2, 0, 0, 0);
        DUE.is("nor one sent behind", x.orderOf(0), 0);
        x.card(1, 0, 0);
        x.order(3, 1, 0, 0);
        DUE.is("its proxy's", x.orderOf(1), 4);
        x.order(3, 0, 1, 6);
        x.turn(2, 6, 1);
        DUE.is("its proxy's if", x.orderOf(0), 5);
        x.order(3, 1, 1, 2);
        DUE.is("a proxy's standing one", x.turn(3, 2, 0), 5);
        DUE.is("a proxy's standing one", x.orderOf(1), 6);
        x.days(7);
        x.done(0);
        DUE.is("it went by its proxy", x.ofPiece(0, 1), 6);
        DUE.is("it went by its proxy", x.ofPiece(1, 1), 2);
        DUE.is("again in turn 2", x.orderOf(0), 0);
        DUE.is("no more beside", x.orderOf(1), -1);
        DUE.is("as of turn 0 it had not dropped", x.again(0, 0), 0);
    }

    private static void full() {
        PostTurns x = two();
        x.card(0, 0, 0);
        x.row(0, 0, 60);
        for (int i = 0; i < 18; i++) DUE.is("read", x.read(0, 0, 0, 15), 15);
        DUE.is("read", x.read(0, 0, 0, 15), 15);
        for (int i = 0; i < 5; i++) x.order(0, 0, 0, 0);
        DUE.is("count", x.count(8), 290);
        DUE.is("room for ten", x.read(0, 0, 0, 15), 10);
        DUE.is("no room", x.read(0, 0, 0, 15), 0);
        DUE.is("FULL", x.order(0, 0, 0, 0), -3);
        DUE.is("BAD ahead of FULL", x.order(0, 0, 5, 0), -1);
        DUE.is("the latest", x.turn(4, 299, 0), -1);
        DUE.is("the latest", x.turn(4, 298, 0), 4);
        x.days(1);
        DUE.is("STATE ahead of FULL", x.order(0, 0, 0, 0), -4);
    }
}

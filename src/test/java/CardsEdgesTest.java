/** The edges of promises 17 to 23, sentence by sentence: cards on the way, orders of all kinds, rows read, THE ORDER. */
public final class CardsEdgesTest {
    private static final Due DUE = new Due("CardsEdgesTest");
    private static final int VOID = -2000000000, MIN = Integer.MIN_VALUE, MAX = Integer.MAX_VALUE;

    public static void main(String[] args) {
        cardRefusals();
        cardsOfThoseWhoDropped();
        aHundredAndFiftyCards();
        daysOnTheWay();
        dueOnThatDayOrLater();
        notDoneWhenItIsSent();
        aGameThatLags();
        noTurnIsLeft();
        lateOfTheTurnItWasSentIn();
        lateAsKnownOnThatDay();
        ofCardRefusals();
        orderRefusals();
        orderOfGoneOnes();
        orderToday();
        threeHundredOrders();
        turnRefusals();
        turnOfTheLatest();
        ofOrderRefusals();
        readRefusals();
        readWhereItEnds();
        readsWrongOnes();
        readsByCards();
        readWithoutRoom();
        orderOfRefusals();
        besideAtTheEdges();
        emptyOrNot();
        tillThatTurnToo();
        dealsToldByThen();
        dealsOfLateCards();
        fromTheTurnItDropped();
        standingOnesOfProxies();
        DUE.end();
    }

    /** Two games. Holders 0, 1, 2 of the first, 3 of the other; pieces 0 and 1 of holder 0, 2 of 1, 3 of 2, 4 of 3. */
    private static PostTurns made() {
        PostTurns x = new PostTurns();
        x.game(1);
        x.game(2);
        for (int h = 0; h < 4; h++) x.holder(h / 3, 10);
        x.piece(0, 0, 3);
        x.piece(0, 14, 2);
        x.piece(1, 8, 3);
        x.piece(2, 47, 3);
        x.piece(3, 1, 3);
        return x;
    }

    private static void ofTurn(String run, PostTurns x, int card, int turn, int late, int counts) {
        DUE.is(run + ": the turn of card " + card, x.ofCard(card, 3), turn);
        DUE.is(run + ": whether card " + card + " is late", x.ofCard(card, 4), late);
        DUE.is(run + ": whether card " + card + " counts", x.ofCard(card, 5), counts);
    }

    /** Promise 17: "for a HOLDER (itself, or one who DROPPED, whose PROXY it is), so many DAYS (0 .. 9) .. BAD". */
    private static void cardRefusals() {
        PostTurns x = made();
        int[] none = {-1, 4, 11, 12, MIN, MAX};
        for (int h : none) {
            DUE.is("17: of holder " + h, x.card(h, 0, 0), -1);
            DUE.is("17: for holder " + h, x.card(0, h, 0), -1);
            DUE.is("17: of and for " + h, x.card(h, h, 0), -1);
        }
        int[] badWays = {-1, 10, 11, MIN, MAX};
        for (int way : badWays) DUE.is("17: way " + way, x.card(0, 0, way), -1);
        DUE.is("44: none was sent", x.count(7), 0);
        for (int way = 0; way <= 9; way++) {
            DUE.is("17: way " + way, x.card(0, 0, way), way);
            DUE.is("18: in on day " + way, x.ofCard(way, 2), way);
        }
    }

    /** Promise 17: for another one just if that DROPPED and it is that one's PROXY. */
    private static void cardsOfThoseWhoDropped() {
        PostTurns x = made();
        DUE.is("17: it did not drop", x.card(1, 0, 0), -1);
        x.drops(0, 1);
        DUE.is("17: its proxy", x.card(1, 0, 0), 0);
        DUE.is("18: its holder", x.ofCard(0, 0), 1);
        DUE.is("18: for whom", x.ofCard(0, 1), 0);
        DUE.is("17: one that is not", x.card(2, 0, 0), -1);
        DUE.is("17: of another game", x.card(3, 0, 0), -1);
        DUE.is("17: the other way round", x.card(0, 1, 0), -1);
        DUE.is("17: itself", x.card(0, 0, 0), 1);
        DUE.is("18: for itself", x.ofCard(1, 0) * 10 + x.ofCard(1, 1), 0);
        x.drops(1, 2);
        DUE.is("17: a proxy that dropped", x.card(1, 0, 0), 2);
        DUE.is("17: its proxy is not the other's", x.card(2, 0, 0), -1);
        x.drops(2, -1);
        for (int h = 0; h < 4; h++) {
            if (h != 2) DUE.is("17: of one without a proxy", x.card(h, 2, 0), -1);
        }
        DUE.is("17: but its own", x.card(2, 2, 0), 3);
    }

    /** Promise 17: "its number .. FULL"; "CARDS 0 .. 149, as they are sent". */
    private static void aHundredAndFiftyCards() {
        PostTurns x = made();
        for (int c = 0; c < 150; c++) DUE.is("17: as they are sent", x.card(c % 4, c % 4, c % 10), c);
        DUE.is("17: FULL", x.card(0, 0, 0), -3);
        DUE.is("17: BAD ahead of FULL", x.card(0, 0, 10), -1);
        DUE.is("17: BAD ahead of FULL", x.card(0, 1, 0), -1);
        DUE.is("17: BAD ahead of FULL", x.card(4, 4, 0), -1);
        DUE.is("44: all of them", x.count(7), 150);
        DUE.is("18: the last one's way", x.ofCard(149, 2), 9);
        DUE.is("18: no more", x.ofCard(150, 2), -1);
        DUE.is("19: an order on the last", x.order(149, 2, 0, 0), 0);
    }

    /** "IN on that DAY": the day it was sent and the way. */
    private static void daysOnTheWay() {
        PostTurns x = made();
        for (int i = 0; i < 16; i++) x.days(60);
        x.days(39);
        for (int way = 0; way <= 9; way++) {
            x.card(3, 3, way);
            DUE.is("18: in", x.ofCard(way, 2), 999 + way);
        }
    }

    /** "that is DUE on the DAY when it is IN or later": on that day it is not late; a day behind it is. */
    private static void dueOnThatDayOrLater() {
        for (int sent = 0; sent <= 7; sent++) {
            PostTurns x = made();
            if (sent > 0) x.days(sent);
            for (int way = 0; way <= 9; way++) {
                x.card(0, 0, way);
                int in = sent + way, turn = in <= 7 ? 0 : in <= 14 ? 1 : 2;
                ofTurn("18: sent on day " + sent, x, way, turn, turn > 0 ? 1 : 0, 1);
            }
        }
    }

    /** "the first TURN .. not done when it is sent": on one day ahead of done() that turn, behind it the next one. */
    private static void notDoneWhenItIsSent() {
        PostTurns x = made();
        x.days(7);
        x.card(0, 0, 0);
        x.card(0, 0, 1);
        x.done(0);
        x.card(0, 0, 0);
        x.card(0, 0, 7);
        x.card(0, 0, 8);
        x.card(3, 3, 0);
        ofTurn("18: ahead of done()", x, 0, 0, 0, 1);
        ofTurn("18: ahead of done()", x, 1, 1, 1, 1);
        ofTurn("18: behind done()", x, 2, 1, 0, 1);
        ofTurn("18: behind done()", x, 3, 1, 0, 1);
        ofTurn("18: behind done()", x, 4, 2, 1, 1);
        ofTurn("18: of the other game", x, 5, 0, 0, 1);
        x.done(1);
        x.again(0, 0);
        ofTurn("18: it stays so", x, 0, 0, 0, 1);
        ofTurn("18: it stays so", x, 5, 0, 0, 1);
    }

    /** Of a game whose turns were not done yet, though due: the card is for a later turn than it is in, so it is LATE. */
    private static void aGameThatLags() {
        PostTurns x = made();
        x.days(21);
        x.card(0, 0, 0);
        x.card(0, 0, 1);
        ofTurn("18: on the day of turn 2", x, 0, 2, 1, 1);
        ofTurn("18: a day behind", x, 1, 3, 1, 1);
        x.order(0, 0, 1, 6);
        x.done(0);
        x.done(0);
        DUE.is("23: in turn 2", x.orderOf(0), 0);
        x.card(0, 0, 0);
        ofTurn("18: now it is in turn 2", x, 2, 2, 0, 1);
    }

    /** "If no TURN is left it is not LATE and counts for none"; promise 18: "3: NOT, if no TURN is left". */
    private static void noTurnIsLeft() {
        PostTurns x = made();
        for (int i = 0; i < 3; i++) x.days(60);
        x.days(29);
        Due.rule(x, 3, 0, "1");
        x.card(0, 0, 1);
        x.card(0, 0, 2);
        ofTurn("18: in on the last day", x, 0, 29, 1, 1);
        ofTurn("18: a day behind", x, 1, -2, 0, 0);
        x.order(1, 0, 0, 0);
        x.turn(3, 29, 0);
        x.order(0, 1, 0, 0);
        DUE.is("20: a deal with one of no turn", x.turn(4, 2, 0), 4);
        x.order(1, 0, 0, 0);
        x.turn(4, 1, 0);
        x.days(1);
        for (int t = 0; t < 29; t++) x.done(0);
        DUE.is("23: not in turn 29", x.orderOf(0), -1);
        DUE.is("23: nor the deal", x.orderOf(1), -1);
        x.card(0, 0, 0);
        ofTurn("18: on the last day", x, 2, 29, 0, 1);
        x.done(0);
        x.card(0, 0, 0);
        ofTurn("18: behind turn 29", x, 3, -2, 0, 0);
        DUE.is("19: an order on it", x.order(3, 0, 0, 0), 3);
        DUE.is("23: counts for none", x.orderOf(0), -1);
    }

    /** "just if LATE says so (of the TURN it was sent in ..)": not of the turn for which it is. */
    private static void lateOfTheTurnItWasSentIn() {
        PostTurns x = made();
        Due.rule(x, 3, 0, "0");
        Due.rule(x, 3, 1, "1");
        x.card(0, 0, 8);
        x.days(7);
        x.card(0, 0, 1);
        x.card(0, 0, 0);
        x.done(0);
        x.card(0, 0, 8);
        ofTurn("18: sent in turn 0 for 1", x, 0, 1, 1, 0);
        ofTurn("18: sent in turn 0 for 1", x, 1, 1, 1, 0);
        ofTurn("18: sent in turn 0 for 0", x, 2, 0, 0, 1);
        ofTurn("18: sent in turn 1 for 2", x, 3, 2, 1, 1);
        DUE.is("23: none counts", x.orderOf(0), -1);
    }

    /** "AS KNOWN on the DAY when it is IN": of rules made on that day, not of those made a day behind. */
    private static void lateAsKnownOnThatDay() {
        PostTurns x = made();
        x.card(0, 0, 8);
        x.order(0, 0, 1, 1);
        x.card(0, 0, 9);
        x.order(1, 1, 1, 15);
        x.days(7);
        x.done(0);
        DUE.is("23: on the way it counts, too", x.orderOf(0), 0);
        x.days(1);
        Due.rule(x, 3, 0, "0");
        ofTurn("18: in today", x, 0, 1, 1, 0);
        ofTurn("18: in tomorrow, as known today", x, 1, 1, 1, 0);
        DUE.is("23: none counts", x.orderOf(0), -1);
        x.days(1);
        Due.rule(x, 3, 0, "1");
        ofTurn("18: in a day ahead", x, 0, 1, 1, 0);
        ofTurn("18: in today", x, 1, 1, 1, 1);
        DUE.is("23: it does not count", x.orderOf(0), -1);
        DUE.is("23: it counts", x.orderOf(1), 1);
        x.days(1);
        Due.rule(x, 3, 0, "0");
        ofTurn("18: in ahead of it", x, 1, 1, 1, 1);
        x.days(4);
        x.done(0);
        DUE.is("24: of LATE as told above", x.ofPiece(1, 1), 15);
        DUE.is("24: of LATE as told above", x.ofPiece(0, 1), 0);
        DUE.is("25: again likewise", x.again(0, 0), 0);
    }

    /** Promise 18: what 0 .. 5; "BAD". */
    private static void ofCardRefusals() {
        PostTurns x = made();
        x.card(0, 0, 3);
        int[] want = {0, 0, 3, 0, 0, 1};
        for (int what = 0; what < 6; what++) DUE.is("18: of the first, " + what, x.ofCard(0, what), want[what]);
        int[] bad = {-1, 6, 7, MIN, MAX};
        for (int what : bad) DUE.is("18: what " + what, x.ofCard(0, what), -1);
        int[] none = {-1, 1, 149, 150, MIN, MAX};
        for (int card : none) {
            for (int what = -1; what <= 6; what++) DUE.is("18: card " + card, x.ofCard(card, what), -1);
        }
    }

    /** Promise 19: "BAD (also a PIECE of another HOLDER, ..; itself .. helped)". */
    private static void orderRefusals() {
        PostTurns x = made();
        DUE.is("19: no card yet", x.order(0, 0, 0, 0), -1);
        x.card(0, 0, 0);
        int[] noCard = {-1, 1, 149, 150, MIN, MAX};
        for (int card : noCard) DUE.is("19: card " + card, x.order(card, 0, 0, 0), -1);
        int[] noPiece = {-1, 2, 3, 4, 5, 39, 40, MIN, MAX};
        for (int p : noPiece) {
            for (int what = 0; what <= 2; what++) DUE.is("19: piece " + p, x.order(0, p, what, 1), -1);
        }
        int[] badWhat = {-1, 3, 4, MIN, MAX};
        for (int what : badWhat) DUE.is("19: what " + what, x.order(0, 0, what, 1), -1);
        int[] noCell = {-1, 48, 100, MIN, MAX};
        for (int cell : noCell) DUE.is("19: to cell " + cell, x.order(0, 0, 1, cell), -1);
        int[] noHelp = {-1, 0, 4, 5, 39, 40, MIN, MAX};
        for (int p : noHelp) DUE.is("19: helps " + p, x.order(0, 0, 2, p), -1);
        DUE.is("44: none was told", x.count(8), 0);
        int[] any = {MIN, -1, 0, 48, MAX};
        for (int i = 0; i < any.length; i++) {
            DUE.is("19: STAY at " + any[i], x.order(0, 0, 0, any[i]), i);
            DUE.is("21: as it is told", x.ofOrder(i, 4), any[i]);
        }
        DUE.is("19: to the first cell, its own", x.order(0, 0, 1, 0), 5);
        DUE.is("19: to the last cell", x.order(0, 0, 1, 47), 6);
        x.cell(1, 1, 1);
        DUE.is("19: to a wall", x.order(0, 0, 1, 1), 7);
        DUE.is("19: helps another of its own", x.order(0, 0, 2, 1), 8);
        DUE.is("19: helps one of another holder", x.order(0, 1, 2, 3), 9);
    }

    /** Promise 19: "BAD (also a PIECE .. GONE; .. one GONE, helped)"; promise 22 makes them WRONG. */
    private static void orderOfGoneOnes() {
        PostTurns x = made();
        x.card(1, 1, 0);
        x.order(0, 2, 1, 14);
        x.days(7);
        x.done(0);
        DUE.is("9: gone", x.ofPiece(1, 3), 1);
        x.card(0, 0, 0);
        for (int what = 0; what <= 2; what++) DUE.is("19: one gone", x.order(1, 1, what, 2), -1);
        DUE.is("19: one gone helped", x.order(1, 0, 2, 1), -1);
        DUE.is("19: another one helped", x.order(1, 0, 2, 2), 1);
        x.row(0, 0, 8);
        x.put(0, 0, 1);
        x.put(0, 5, 2);
        x.put(0, 6, 1);
        DUE.is("22: two", x.read(1, 0, 0, 2), 2);
        DUE.is("22: a stay of one gone", x.ofOrder(2, 0), 6);
        DUE.is("22: a help of one gone", x.ofOrder(3, 0), 6);
    }

    /** Promise 19: "on a CARD that was sent TODAY .. STATE: the CARD was sent earlier": BAD ahead of it. */
    private static void orderToday() {
        PostTurns x = made();
        x.card(0, 0, 9);
        DUE.is("19: today", x.order(0, 0, 0, 0), 0);
        x.days(1);
        DUE.is("19: a day behind", x.order(0, 0, 0, 0), -4);
        DUE.is("19: BAD ahead of STATE", x.order(0, 2, 0, 0), -1);
        DUE.is("19: BAD ahead of STATE", x.order(0, 0, 1, 48), -1);
        DUE.is("19: BAD ahead of STATE", x.order(0, 0, 2, 0), -1);
        x.days(8);
        DUE.is("19: on the day when it is in", x.order(0, 0, 0, 0), -4);
        x.card(0, 0, 9);
        DUE.is("19: on today's card", x.order(1, 0, 0, 0), 1);
        x.done(0);
        DUE.is("19: today, behind done()", x.order(1, 0, 0, 0), 2);
    }

    /** Promise 19: "FULL"; "ORDERS (at most 300)": BAD and STATE are ahead of it. */
    private static void threeHundredOrders() {
        PostTurns x = made();
        x.card(0, 0, 0);
        x.days(1);
        x.card(0, 0, 0);
        x.row(0, 0, 60);
        for (int i = 0; i < 19; i++) DUE.is("22: fifteen", x.read(1, 0, 0, 15), 15);
        for (int o = 285; o < 300; o++) DUE.is("19: its number", x.order(1, 0, 0, o), o);
        DUE.is("19: FULL", x.order(1, 0, 0, 0), -3);
        DUE.is("19: STATE ahead of FULL", x.order(0, 0, 0, 0), -4);
        DUE.is("19: BAD ahead of FULL", x.order(1, 2, 0, 0), -1);
        DUE.is("44: 300", x.count(8), 300);
        DUE.is("21: the last", x.ofOrder(299, 4), 299);
        DUE.is("21: no more", x.ofOrder(300, 4), VOID);
        DUE.is("23: the greatest number", x.orderOf(0), 299);
        DUE.is("20: the latest", x.turn(3, 29, 0), 3);
    }

    /** Promise 20: "kind 2: a = CELL, b = 1, 0; kind 3: a = TURN (0 .. 29); kind 4: a = ORDER (0 .. 299, .. not itself)". */
    private static void turnRefusals() {
        PostTurns x = made();
        x.card(0, 0, 0);
        x.order(0, 0, 0, 0);
        int[] badKinds = {-1, 0, 1, 5, 6, 7, MIN, MAX};
        for (int kind : badKinds) DUE.is("20: kind " + kind, x.turn(kind, 1, 1), -1);
        int[] noCell = {-1, 48, 100, MIN, MAX};
        for (int a : noCell) DUE.is("20: if of cell " + a, x.turn(2, a, 1), -1);
        int[] badB = {-1, 2, MIN, MAX};
        for (int b : badB) DUE.is("20: if " + b, x.turn(2, 0, b), -1);
        int[] badTurns = {-1, 30, 31, MIN, MAX};
        for (int a : badTurns) DUE.is("20: till turn " + a, x.turn(3, a, 0), -1);
        int[] badOrders = {-1, 0, 300, 301, MIN, MAX};
        for (int a : badOrders) DUE.is("20: with order " + a, x.turn(4, a, 0), -1);
        DUE.is("21: it is of kind 1 yet", x.ofOrder(0, 0), 1);
        DUE.is("21: without a first number", x.ofOrder(0, 5), -1);
        int[][] sound = {{2, 0, 0}, {2, 47, 1}, {3, 0, MIN}, {3, 29, MAX}, {4, 299, -7}, {4, 0, 7}, {4, 8, 0}};
        for (int i = 0; i < sound.length; i++) {
            x.order(0, 0, 0, 0);
            int[] one = sound[i];
            DUE.is("20: becomes a " + one[0], x.turn(one[0], one[1], one[2]), one[0]);
            DUE.is("21: its kind", x.ofOrder(i + 1, 0), one[0]);
            DUE.is("21: its first", x.ofOrder(i + 1, 5), one[1]);
            DUE.is("21: its second", x.ofOrder(i + 1, 6), one[0] == 2 ? one[2] : -1);
        }
    }

    /** Promise 20: "STATE: there is none, it is of another KIND than 1, or its CARD was sent earlier": BAD ahead of it. */
    private static void turnOfTheLatest() {
        PostTurns x = made();
        DUE.is("20: there is none", x.turn(2, 0, 1), -4);
        DUE.is("20: there is none", x.turn(3, 0, 0), -4);
        DUE.is("20: there is none", x.turn(4, 0, 0), -4);
        DUE.is("20: BAD ahead of STATE", x.turn(1, 0, 0), -1);
        DUE.is("20: BAD ahead of STATE", x.turn(4, 300, 0), -1);
        x.card(0, 0, 0);
        int[][] kinds = {{2, 5, 1}, {3, 5, 0}, {4, 9, 0}};
        for (int[] one : kinds) {
            x.order(0, 0, 0, 0);
            x.turn(one[0], one[1], one[2]);
            for (int[] other : kinds) DUE.is("20: of another kind", x.turn(other[0], other[1] + 1, other[2]), -4);
            DUE.is("20: BAD ahead of STATE", x.turn(2, 48, 1), -1);
            int latest = x.count(8) - 1;
            DUE.is("20: BAD ahead of STATE: itself", x.turn(4, latest, 0), -1);
            DUE.is("21: as it was", x.ofOrder(latest, 0) * 10 + x.ofOrder(latest, 5), one[0] * 10 + one[1]);
        }
        x.row(0, 0, 1);
        x.read(0, 0, 0, 1);
        DUE.is("20: a wrong one", x.turn(3, 5, 0), -4);
        x.order(0, 0, 0, 0);
        x.days(1);
        x.card(0, 0, 0);
        DUE.is("20: its card was sent earlier", x.turn(3, 5, 0), -4);
        DUE.is("20: BAD ahead of STATE", x.turn(3, 30, 0), -1);
        DUE.is("21: as it was", x.ofOrder(4, 0), 1);
        x.drops(0, 2);
        x.card(2, 0, 0);
        x.order(2, 0, 0, 0);
        DUE.is("20: PROXY, if its card is for another one", x.turn(3, 29, 0), 5);
        DUE.is("20: of another kind", x.turn(3, 29, 0), -4);
        x.order(2, 0, 0, 0);
        DUE.is("20: a deal of a proxy is a deal", x.turn(4, 0, 0), 4);
    }

    /** Promise 21: what 0 .. 6; "VOID: BAD". */
    private static void ofOrderRefusals() {
        PostTurns x = made();
        x.card(0, 0, 0);
        x.card(1, 1, 0);
        x.order(1, 2, 2, 0);
        int[] want = {1, 1, 2, 2, 0, -1, -1};
        for (int what = 0; what < 7; what++) DUE.is("21: of the first, " + what, x.ofOrder(0, what), want[what]);
        int[] bad = {-1, 7, 8, MIN, MAX};
        for (int what : bad) DUE.is("21: what " + what, x.ofOrder(0, what), VOID);
        int[] none = {-1, 1, 299, 300, MIN, MAX};
        for (int order : none) {
            for (int what = -1; what <= 7; what++) DUE.is("21: order " + order, x.ofOrder(order, what), VOID);
        }
    }

    private static void fill(PostTurns x, int shelf, int... bytes) {
        x.row(shelf, 0, bytes.length);
        for (int i = 0; i < bytes.length; i++) x.put(shelf, i, bytes[i]);
    }

    /** Promise 22: "n (1 .. 15) fours .. BAD, STATE, -12": the one named first. */
    private static void readRefusals() {
        PostTurns x = made();
        fill(x, 0, 0, 0, 0, 0);
        DUE.is("22: no card yet", x.read(0, 0, 0, 1), -1);
        x.card(0, 0, 0);
        x.order(0, 0, 0, 0);
        x.keep(1, 0);
        x.row(2, 3, 8);
        int[] noCard = {-1, 1, 149, 150, MIN, MAX};
        for (int card : noCard) DUE.is("22: card " + card, x.read(card, 0, 0, 1), -1);
        int[] noShelf = {-1, 6, MIN, MAX};
        for (int shelf : noShelf) DUE.is("22: shelf " + shelf, x.read(0, shelf, 0, 1), -1);
        int[] badN = {0, -1, 16, MIN, MAX};
        for (int n : badN) {
            DUE.is("22: n " + n, x.read(0, 0, 0, n), -1);
            DUE.is("22: BAD ahead of -12", x.read(0, 1, 0, n), -1);
        }
        DUE.is("22: an order on the shelf", x.read(0, 1, 0, 1), -12);
        DUE.is("22: a row of longs", x.read(0, 2, -1, 1), -12);
        DUE.is("22: a shelf that holds nothing is missing", x.read(0, 3, 0, 1), 0);
        for (int sort = 1; sort <= 4; sort++) {
            x.row(4, sort, 0);
            DUE.is("22: an empty row of sort " + sort, x.read(0, 4, 0, 1), -12);
        }
        DUE.is("44: none came", x.count(8), 1);
        x.days(1);
        DUE.is("22: STATE", x.read(0, 0, 0, 1), -4);
        DUE.is("22: STATE ahead of -12", x.read(0, 1, 0, 1), -4);
        DUE.is("22: STATE of a missing row", x.read(0, 3, 0, 1), -4);
        DUE.is("22: BAD ahead of STATE", x.read(0, 0, 0, 16), -1);
        DUE.is("22: BAD ahead of STATE", x.read(0, 6, 0, 1), -1);
    }

    /** "it ends where the row is missing or ends (.. ahead of a place below 0, too) ..; within a four, one WRONG one more". */
    private static void readWhereItEnds() {
        int[] places = {MIN, MIN + 1, -4, -3, -2, -1, MAX, MAX - 1, MAX - 3, MAX - 59};
        for (int length = 0; length <= 13; length++) {
            for (int i = -4; i <= 14; i++) {
                for (int n = 1; n <= 5; n++) {
                    PostTurns x = made();
                    x.card(0, 0, 0);
                    x.row(0, 0, length);
                    int left = i < 0 ? 0 : Math.max(0, length - i);
                    int came = Math.min(n, (left + 3) / 4), whole = Math.min(n, left / 4);
                    String run = "22: of " + length + " from " + i + " on " + n;
                    DUE.is(run, x.read(0, 0, i, n), came);
                    DUE.is(run + ": orders", x.count(8), came);
                    for (int o = 0; o < came; o++) DUE.is(run + ": kind", x.ofOrder(o, 0), o < whole ? 1 : 6);
                }
            }
        }
        PostTurns x = made();
        x.card(0, 0, 0);
        x.row(0, 0, 60);
        for (int i : places) DUE.is("22: from " + i + " on", x.read(0, 0, i, 15), 0);
        DUE.is("22: the last byte", x.read(0, 0, 59, 15), 1);
        DUE.is("22: all", x.read(0, 0, 0, 15), 15);
        DUE.is("22: one of the most", x.read(0, 0, 0, 1), 1);
    }

    private static void reads(PostTurns x, boolean sound, int... four) {
        fill(x, 0, four);
        int order = x.count(8);
        String run = "22: reads " + four[0] + " " + four[1] + " " + four[2] + " " + four[3];
        DUE.is(run, x.read(0, 0, 0, 1), 1);
        int[] want = {sound ? 1 : 6, 0, sound ? four[0] : -1, sound ? four[1] : 0, sound ? (byte) four[2] : 0, -1, -1};
        for (int what = 0; what < 7; what++) DUE.is(run + ": " + what, x.ofOrder(order, what), want[what]);
    }

    /** "each an ORDER of KIND 1, or, if one is not so, of KIND 6 WRONG (its PIECE is -1, what and at 0)". */
    private static void readsWrongOnes() {
        PostTurns x = made();
        x.cell(6, 1, 1);
        x.card(0, 0, 0);
        int[] ends = {-128, -1, 0, 48, 127};
        for (int at : ends) reads(x, true, 0, 0, at, 0);
        int[] fourths = {1, -1, 127, -128};
        for (int last : fourths) reads(x, false, 0, 0, 0, last);
        reads(x, true, 0, 0, 0, 256);
        int[] whats = {-1, 3, 127, -128};
        for (int what : whats) reads(x, false, 0, what, 1, 0);
        int[] noPiece = {-1, 2, 3, 4, 5, 39, 40, 127, -128};
        for (int p : noPiece) reads(x, false, p, 0, 0, 0);
        for (int cell = -2; cell <= 49; cell++) {
            reads(x, cell == 1, 0, 1, cell, 0);
            reads(x, cell == 8 || cell == 13 || cell == 15 || cell == 20, 1, 1, cell, 0);
        }
        for (int p = -1; p <= 5; p++) reads(x, p == 1 || p == 2 || p == 3, 0, 2, p, 0);
        DUE.is("23: the wrong ones count for nothing", x.orderOf(0), x.count(8) - 3);
    }

    /** "for a PIECE of its HOLDER (or of the one who DROPPED)": by a proxy's card those of the one who dropped alone. */
    private static void readsByCards() {
        PostTurns x = made();
        x.drops(1, 0);
        x.card(0, 1, 0);
        reads(x, true, 2, 0, 0, 0);
        reads(x, false, 0, 0, 0, 0);
        reads(x, true, 2, 1, 7, 0);
        DUE.is("19: of the proxy's own", x.order(0, 0, 0, 0), -1);
        DUE.is("19: of the one who dropped", x.order(0, 2, 0, 0), 3);
        DUE.is("23: the last", x.orderOf(2), 3);
    }

    /** "(Where no ORDER more has room it ends.)". */
    private static void readWithoutRoom() {
        PostTurns x = made();
        x.card(0, 0, 0);
        x.row(0, 0, 60);
        x.row(1, 0, 7);
        for (int i = 0; i < 19; i++) x.read(0, 0, 0, 15);
        for (int o = 285; o < 298; o++) x.order(0, 0, 0, 0);
        DUE.is("22: room for two", x.read(0, 1, 0, 15), 2);
        DUE.is("21: a part of a four", x.ofOrder(299, 0), 6);
        DUE.is("22: no room", x.read(0, 0, 0, 15), 0);
        DUE.is("22: no room for a part", x.read(0, 1, 4, 1), 0);
        DUE.is("22: BAD", x.read(0, 0, 0, 16), -1);
        x.row(2, 1, 4);
        DUE.is("22: -12", x.read(0, 2, 0, 1), -12);
        DUE.is("44: 300", x.count(8), 300);
        PostTurns y = made();
        y.card(0, 0, 0);
        y.row(0, 0, 60);
        for (int i = 0; i < 19; i++) y.read(0, 0, 0, 15);
        y.order(0, 0, 0, 0);
        DUE.is("22: room for fourteen of fifteen", y.read(0, 0, 0, 15), 14);
        DUE.is("44: 300", y.count(8), 300);
    }

    /** Promise 23: "-1: STAY by none. VOID: BAD". */
    private static void orderOfRefusals() {
        PostTurns x = made();
        int[] none = {-1, 5, 39, 40, MIN, MAX};
        for (int p : none) DUE.is("23: piece " + p, x.orderOf(p), VOID);
        for (int p = 0; p < 5; p++) DUE.is("23: by none", x.orderOf(p), -1);
        x.card(3, 3, 0);
        x.order(0, 4, 0, 0);
        DUE.is("23: order 0", x.orderOf(4), 0);
    }

    /** "BESIDE are CELLS that differ by 1 in x or y alone": not around the edges of the board. */
    private static void besideAtTheEdges() {
        int[] from = {0, 5, 6, 11, 14, 36, 42, 41, 47};
        for (int cell : from) {
            for (int to = 0; to < 48; to++) {
                PostTurns x = new PostTurns();
                x.game(0);
                x.holder(0, 0);
                x.piece(0, cell, 1);
                x.card(0, 0, 0);
                x.order(0, 0, 1, to);
                boolean beside = Math.abs(cell / 6 - to / 6) + Math.abs(cell % 6 - to % 6) == 1;
                DUE.is("23: from " + cell + " to " + to, x.orderOf(0), beside ? 0 : -1);
                DUE.is("29: from " + cell + " to " + to, x.way(0, 1, to), beside ? 1 : -1);
            }
        }
    }

    /** "only if a told CELL is EMPTY (no PIECE is there; 1) or not (0) as the TURN begins". */
    private static void emptyOrNot() {
        for (int b = 0; b <= 1; b++) {
            for (int cell : new int[] {0, 8, 14, 47, 1, 46}) {
                PostTurns x = made();
                x.card(0, 0, 0);
                x.card(1, 1, 0);
                x.order(0, 0, 0, 0);
                x.turn(2, cell, b);
                x.order(1, 2, 1, 7);
                boolean empty = cell == 1 || cell == 46;
                DUE.is("23: cell " + cell + ", " + b, x.orderOf(0), empty == (b == 1) ? 0 : -1);
                x.days(7);
                x.done(0);
                DUE.is("9: as the turn began", x.ofPiece(0, 4), empty == (b == 1) ? 0 : -1);
            }
        }
    }

    /** "counts for each TURN from that of its CARD on till a told TURN (that one too)". */
    private static void tillThatTurnToo() {
        for (int till = 0; till <= 4; till++) {
            PostTurns x = made();
            x.card(0, 0, 9);
            x.order(0, 0, 0, 0);
            x.turn(3, till, 0);
            x.days(60);
            for (int t = 0; t < 6; t++) {
                boolean counts = t >= 1 && t <= till;
                DUE.is("23: from 1 till " + till + " in turn " + t, x.orderOf(0), counts ? 0 : -1);
                x.done(0);
                DUE.is("9: led", x.ofPiece(0, 4), counts ? 0 : -1);
            }
        }
        PostTurns y = made();
        y.card(0, 0, 0);
        y.order(0, 0, 0, 0);
        y.turn(3, 29, 0);
        for (int i = 0; i < 4; i++) y.days(60);
        for (int t = 0; t < 30; t++) y.done(0);
        DUE.is("9: in the last turn, too", y.ofPiece(0, 4), 0);
        DUE.is("23: behind it no more", y.orderOf(0), -1);
    }

    /** "if the other ORDER is told by then and a DEAL that names it": told or still to come, not of another kind. */
    private static void dealsToldByThen() {
        PostTurns x = made();
        x.card(0, 0, 0);
        x.order(0, 0, 0, 0);
        DUE.is("20: one that never comes", x.turn(4, 299, 0), 4);
        DUE.is("23: not told", x.orderOf(0), -1);
        x.order(0, 0, 0, 0);
        x.turn(4, 2, 0);
        DUE.is("23: the very next, not told yet", x.orderOf(0), -1);
        x.order(0, 1, 0, 0);
        DUE.is("23: no deal", x.orderOf(0), -1);
        x.turn(2, 1, 1);
        DUE.is("23: an if", x.orderOf(0), -1);
        DUE.is("23: the if goes its own way", x.orderOf(1), 2);
        x.order(0, 0, 0, 0);
        x.turn(4, 4, 0);
        x.row(0, 0, 1);
        x.read(0, 0, 0, 1);
        DUE.is("23: a wrong one", x.orderOf(0), -1);
        x.order(0, 0, 0, 0);
        x.turn(4, 6, 0);
        x.order(0, 0, 0, 0);
        x.turn(4, 5, 0);
        DUE.is("23: two of one piece: the greatest", x.orderOf(0), 6);
        DUE.is("20: names the first", x.order(0, 1, 0, 0), 7);
        x.turn(4, 0, 0);
        DUE.is("23: that names another", x.orderOf(1), 2);
    }

    /** "its CARD counts for that TURN, too": also if it is late, just if LATE says so. */
    private static void dealsOfLateCards() {
        PostTurns x = made();
        x.card(0, 0, 8);
        x.card(1, 1, 8);
        x.order(0, 0, 0, 0);
        x.turn(4, 1, 0);
        x.order(1, 2, 0, 0);
        x.turn(4, 0, 0);
        Due.rule(x, 3, 0, "h=0");
        DUE.is("23: not in turn 0", x.orderOf(0), -1);
        x.days(7);
        x.done(0);
        DUE.is("23: the other's card does not count", x.orderOf(0), -1);
        DUE.is("23: nor does it itself", x.orderOf(2), -1);
        Due.rule(x, 3, 0, "1");
        DUE.is("23: both count", x.orderOf(0) * 10 + x.orderOf(2), 1);
        Due.rule(x, 3, 0, "h=1");
        DUE.is("23: not its own", x.orderOf(0), -1);
        DUE.is("23: nor the other", x.orderOf(2), -1);
    }

    /** "Of a HOLDER that DROPPED in that TURN or ahead: just those of its PROXY's CARDS, and STANDING ones of its own ..". */
    private static void fromTheTurnItDropped() {
        for (int dropped = 0; dropped <= 4; dropped++) {
            PostTurns x = made();
            x.card(0, 0, 8);
            x.order(0, 0, 0, 0);
            x.turn(3, 9, 0);
            x.order(0, 1, 0, 0);
            x.days(60);
            for (int t = 0; t < 6; t++) {
                if (t == dropped) x.drops(0, 2);
                boolean standing = t >= 1 && dropped > 1 || t >= 1 && t < dropped;
                DUE.is("23: dropped in " + dropped + ", standing in turn " + t, x.orderOf(0), standing ? 0 : -1);
                DUE.is("23: dropped in " + dropped + ", turn " + t, x.orderOf(1), t == 1 && dropped > 1 ? 1 : -1);
                x.done(0);
            }
        }
        PostTurns x = made();
        x.card(0, 0, 0);
        x.order(0, 0, 0, 0);
        x.turn(3, 9, 0);
        DUE.is("23: ahead of drops()", x.orderOf(0), 0);
        x.drops(0, 2);
        DUE.is("23: behind drops(), its card of that turn", x.orderOf(0), -1);
        x.card(0, 0, 0);
        x.order(1, 0, 0, 0);
        DUE.is("23: a later card of its own", x.orderOf(0), -1);
        x.card(2, 0, 0);
        x.order(2, 0, 0, 0);
        DUE.is("23: its proxy's", x.orderOf(0), 2);
    }

    /** "PROXY ones are STANDING ones of a CARD for one who DROPPED": from the CARD's turn till the told one, that too. */
    private static void standingOnesOfProxies() {
        for (int till = 0; till <= 5; till++) {
            PostTurns x = made();
            x.drops(0, 2);
            x.card(2, 0, 8);
            x.order(0, 0, 0, 0);
            DUE.is("20: a proxy's", x.turn(3, till, 0), 5);
            x.days(60);
            for (int t = 0; t < 7; t++) {
                int want = t >= 1 && t <= till ? 0 : -1;
                DUE.is("23: till " + till + " in turn " + t, x.orderOf(0), want);
                x.done(0);
                DUE.is("9: led", x.ofPiece(0, 4), want);
            }
        }
    }
}

/** Turns by post: games whose holders send orders on cards. ../shared/DOC.md says what each public call answers. */
public final class PostTurns {
    public static final int BAD = -1, NOT = -2, FULL = -3, STATE = -4, VOID = -2000000000;

    private static final int NOTHING_THERE = -11, OTHER_KIND = -12, NO_PLACE = -13, BELOW_ZERO = -14;
    private static final int UNSEEN = -5;
    private static final int GAMES = 3, CELLS = 48, COLUMN = 6, HOLDERS = 12, PIECES = 40;
    private static final int CARDS = 150, ORDERS = 300, RULES = 20, TURNS = 30, SHELVES = 6, BYTES = 160;
    private static final int LAST_DAY = 999, DAYS_A_TURN = 7, USES = 5, NONE = -1;
    private static final int TOLD_PIECES = 3, TOLD_WAYS = 4, ELEMENTS = 60;
    private static final int STAY = 0, MOVE = 1, HELP = 2;
    private static final int MAY = 0, TIE = 1, SIGHT = 2, LATE = 3, FEE = 4;
    private static final int BODY = 0, ORDER = 1, IF = 2, STANDING = 3, DEAL = 4, PROXY = 5, WRONG = 6;
    // The places of the names in a row of their worths: the signs of Tape.NAMES in their order.
    private static final int TURN_NAME = 0, PIECE_NAME = 1, FORCE_NAME = 2, HOLDER_NAME = 3, CELL_NAME = 4,
        WHAT_NAME = 5, GOAL_NAME = 6, VALUE_NAME = 7, NUMBER_NAME = 8, DRAWN_NAME = 9, COINS_NAME = 10, NAMES = 11;

    private int day = 0;
    private final Game[] games = new Game[GAMES];
    private int gameCount = 0;
    private final Holder[] holders = new Holder[HOLDERS];
    private int holderCount = 0;
    private final Moves moves = new Moves();
    private final Piece[] pieces = moves.pieces;
    private int pieceCount = 0;
    private final Card[] cards = new Card[CARDS];
    private int cardCount = 0;
    private final Order[] orders = new Order[ORDERS];
    private int orderCount = 0;
    private final Rule[] rules = new Rule[RULES];
    private int ruleCount = 0;
    private final Tape tape = new Tape();
    private final int[] names = new int[NAMES];
    private final Ways ways = new Ways();
    private final Acts acts = new Acts();
    private final Shelf[] shelves = new Shelf[SHELVES];

    public PostTurns() {
        for (int i = 0; i < GAMES; i++) games[i] = new Game();
        for (int i = 0; i < HOLDERS; i++) holders[i] = new Holder();
        for (int i = 0; i < CARDS; i++) cards[i] = new Card();
        for (int i = 0; i < ORDERS; i++) orders[i] = new Order();
        for (int i = 0; i < RULES; i++) rules[i] = new Rule();
        for (int i = 0; i < SHELVES; i++) shelves[i] = new Shelf();
    }

    // ---- days, games

    public int days(int n) {
        if (n < 1 || n > 60 || day + n > LAST_DAY) return BAD;
        day += n;
        return day;
    }

    public int game(int seed) {
        if (gameCount >= GAMES) return FULL;
        Game made = games[gameCount];
        made.seed = seed;
        made.began = day;
        gameCount++;
        return gameCount - 1;
    }

    public int cell(int cell, int what, int v) {
        int number = cell / 100, place = cell % 100;
        if (!isGame(number) || !isCell(place)) return BAD;
        if (what < 0 || what > 1 || v < 0 || v > (what == 0 ? 9 : 1)) return BAD;
        Game in = games[number];
        if (in.turn > 0) return STATE;
        if (what == 0) {
            int was = in.value[place];
            in.value[place] = v;
            return was;
        }
        if (v == 1 && pieceIn(number, place) != NONE) return NOT;
        int was = in.wall[place] ? 1 : 0;
        in.wall[place] = v == 1;
        return was;
    }

    public int holder(int game, int coins) {
        if (!isGame(game) || coins < 0 || coins > 9999) return BAD;
        if (games[game].turn > 0) return STATE;
        if (holderCount >= HOLDERS) return FULL;
        Holder made = holders[holderCount];
        made.game = game;
        made.coins = coins;
        made.coinsAhead[0] = coins;
        holderCount++;
        return holderCount - 1;
    }

    public int runs(int holder, int game) {
        if (!isHolder(holder) || !isGame(game)) return VOID;
        int was = games[game].runner;
        games[game].runner = holder;
        return was;
    }

    public int drops(int holder, int proxy) {
        if (!isHolder(holder) || proxy < NONE) return BAD;
        if (proxy != NONE && (!isHolder(proxy) || proxy == holder)) return BAD;
        Holder one = holders[holder];
        if (proxy != NONE && holders[proxy].game != one.game) return BAD;
        if (one.dropped != NONE) return STATE;
        one.dropped = games[one.game].turn;
        one.proxy = proxy;
        return 1;
    }

    public int piece(int holder, int cell, int force) {
        if (!isHolder(holder) || !isCell(cell) || force < 1 || force > 9) return BAD;
        int game = holders[holder].game;
        if (games[game].wall[cell]) return BAD;
        if (games[game].turn > 0) return STATE;
        if (pieceIn(game, cell) != NONE) return NOT;
        if (pieceCount >= PIECES) return FULL;
        Piece made = pieces[pieceCount];
        made.game = game;
        made.holder = holder;
        made.force = force;
        made.cell = cell;
        made.cellAhead[0] = cell;
        pieceCount++;
        return pieceCount - 1;
    }

    public int ofPiece(int piece, int what) {
        if (!isPiece(piece)) return VOID;
        Piece one = pieces[piece];
        switch (what) {
            case 0: return one.holder;
            case 1: return one.cell;
            case 2: return one.force;
            case 3: return one.gone ? 1 : 0;
            case 4: return one.led;
            case 5: return one.failed;
            default: return VOID;
        }
    }

    public int ofHolder(int holder, int what) {
        if (!isHolder(holder)) return VOID;
        Holder one = holders[holder];
        int owed = one.owed(games[one.game].turn);
        switch (what) {
            case 0: return one.game;
            case 1: return one.coins;
            case 2: return one.dropped;
            case 3: return one.proxy;
            case 4: return piecesOf(holder);
            case 5: return owed;
            case 6: return one.paid;
            case 7: return one.paid > owed ? one.paid - owed : 0;
            default: return VOID;
        }
    }

    public int ofGame(int game, int what) {
        if (!isGame(game)) return what == 2 ? VOID : BAD;
        Game one = games[game];
        switch (what) {
            case 0: return one.turn;
            case 1: return one.due(one.turn);
            case 2: return one.runner;
            case 3: return one.times;
            default: return BAD;
        }
    }

    private boolean isGame(int game) {
        return game >= 0 && game < gameCount;
    }

    private boolean isHolder(int holder) {
        return holder >= 0 && holder < holderCount;
    }

    private boolean isPiece(int piece) {
        return piece >= 0 && piece < pieceCount;
    }

    private boolean isCard(int card) {
        return card >= 0 && card < cardCount;
    }

    private boolean isOrder(int order) {
        return order >= 0 && order < orderCount;
    }

    private static boolean isCell(int cell) {
        return cell >= 0 && cell < CELLS;
    }

    private static boolean isTurn(int t) {
        return t >= 0 && t < TURNS;
    }

    private static boolean isShelf(int shelf) {
        return shelf >= 0 && shelf < SHELVES;
    }

    private static int distance(int a, int b) {
        return Math.abs(a / COLUMN - b / COLUMN) + Math.abs(a % COLUMN - b % COLUMN);
    }

    private int pieceIn(int game, int cell) {
        for (int p = 0; p < pieceCount; p++) {
            Piece one = pieces[p];
            if (one.cell == cell && one.game == game && !one.gone) return p;
        }
        return NONE;
    }

    private int piecesOf(int holder) {
        int there = 0;
        for (int p = 0; p < pieceCount; p++) {
            if (pieces[p].holder == holder && !pieces[p].gone) there++;
        }
        return there;
    }

    // ---- rules

    public int feed(int n, int v) {
        if (n < 1 || n > 4) return BAD;
        if (tape.length + n > BYTES) return FULL;
        for (int i = 0; i < n; i++) tape.add((v >>> (8 * i)) & 255);
        return tape.length;
    }

    public int rule(int what, int from) {
        if (!isRuled(what) || !isTurn(from)) return BAD;
        if (ruleCount >= RULES) return FULL;
        Rule made = rules[ruleCount];
        int fault = tape.compile(made);
        tape.length = 0;
        if (fault != NONE) return -100 - fault;
        made.game = what / 10;
        made.use = what % 10;
        made.made = day;
        made.from = from;
        ruleCount++;
        return ruleCount - 1;
    }

    public int inForce(int what, int t, int k) {
        if (!isRuled(what) || !isTurn(t) || k < 0 || k > LAST_DAY) return BAD;
        int found = ruleIn(what / 10, what % 10, t, k);
        return found == NONE ? NOT : found;
    }

    public int says(int use, int of) {
        if (use == SIGHT && isPiece(of)) return sightOf(of);
        if (use == FEE && isHolder(of)) {
            Holder one = holders[of];
            return feeOf(of, games[one.game].turn, piecesOf(of));
        }
        return BAD;
    }

    public int drawn(int piece, int t) {
        if (!isPiece(piece) || !isTurn(t)) return BAD;
        return drawnFor(piece, t);
    }

    private boolean isRuled(int what) {
        return what >= 0 && isGame(what / 10) && what % 10 < USES;
    }

    /** The rule of a game and a use in force in turn t as known on day k; NONE. */
    private int ruleIn(int game, int use, int t, int k) {
        for (int r = ruleCount - 1; r >= 0; r--) {
            Rule one = rules[r];
            if (one.use == use && one.game == game && one.made <= k && one.from <= t) return r;
        }
        return NONE;
    }

    private int drawnFor(int piece, int t) {
        int s = games[pieces[piece].game].seed + 7919 * t + 104729 * piece;
        return ((s * 1103515245 + 12345) >>> 8) % 100;
    }

    private void clearNames() {
        for (int i = 0; i < NAMES; i++) names[i] = 0;
    }

    /** All names but DRAWN, for a piece of which something is ordered in turn t. */
    private void namePiece(int piece, int what, int at, int t) {
        Piece one = pieces[piece];
        int goal = what == MOVE && isCell(at) ? at : one.cell;
        names[TURN_NAME] = t;
        names[PIECE_NAME] = piece;
        names[FORCE_NAME] = one.force;
        names[HOLDER_NAME] = one.holder;
        names[CELL_NAME] = one.cell;
        names[WHAT_NAME] = what;
        names[GOAL_NAME] = goal;
        names[VALUE_NAME] = games[one.game].value[goal];
        names[NUMBER_NAME] = piecesOf(one.holder);
        names[DRAWN_NAME] = 0;
        names[COINS_NAME] = holders[one.holder].coins;
    }

    private boolean mayBe(int piece, int what, int at, int t) {
        int found = ruleIn(pieces[piece].game, MAY, t, day);
        if (found == NONE) return true;
        namePiece(piece, what, at, t);
        return rules[found].worth(names) != 0;
    }

    private int tieOf(int piece, int what, int at, int t) {
        int found = ruleIn(pieces[piece].game, TIE, t, day);
        if (found == NONE) return 0;
        namePiece(piece, what, at, t);
        names[DRAWN_NAME] = drawnFor(piece, t);
        return rules[found].worth(names);
    }

    private int sightOf(int piece) {
        int game = pieces[piece].game;
        int t = games[game].turn;
        int found = ruleIn(game, SIGHT, t, day);
        if (found == NONE) return 2;
        namePiece(piece, STAY, 0, t);
        return within(rules[found].worth(names), 9);
    }

    private int feeOf(int holder, int t, int number) {
        Holder one = holders[holder];
        int found = ruleIn(one.game, FEE, t, day);
        if (found == NONE) return 0;
        clearNames();
        names[TURN_NAME] = t;
        names[HOLDER_NAME] = holder;
        names[NUMBER_NAME] = number;
        names[COINS_NAME] = one.coins;
        return within(rules[found].worth(names), 9999);
    }

    private static int within(int v, int most) {
        return Math.max(0, Math.min(v, most));
    }

    // ---- cards, orders

    public int card(int holder, int of, int way) {
        if (!isHolder(holder) || !isHolder(of) || way < 0 || way > 9) return BAD;
        if (holder != of && (holders[of].dropped == NONE || holders[of].proxy != holder)) return BAD;
        if (cardCount >= CARDS) return FULL;
        Card made = cards[cardCount];
        Game in = games[holders[of].game];
        made.holder = holder;
        made.of = of;
        made.sent = day;
        made.in = day + way;
        made.sentTurn = in.turn;
        made.turn = in.firstDue(made.in);
        cardCount++;
        return cardCount - 1;
    }

    public int ofCard(int card, int what) {
        if (!isCard(card)) return BAD;
        Card one = cards[card];
        switch (what) {
            case 0: return one.holder;
            case 1: return one.of;
            case 2: return one.in;
            case 3: return one.turn == NONE ? NOT : one.turn;
            case 4: return one.late() ? 1 : 0;
            case 5: return cardCounts(one) ? 1 : 0;
            default: return BAD;
        }
    }

    public int order(int card, int piece, int what, int at) {
        if (!isCard(card) || !isSound(piece, what, at)) return BAD;
        if (pieces[piece].holder != cards[card].of) return BAD;
        if (cards[card].sent != day) return STATE;
        if (orderCount >= ORDERS) return FULL;
        addOrder(card, ORDER, piece, what, at);
        return orderCount - 1;
    }

    public int turn(int kind, int a, int b) {
        int latest = orderCount - 1;
        if (!isKindTold(kind, a, b) || kind == DEAL && a == latest) return BAD;
        if (latest < 0) return STATE;
        Order one = orders[latest];
        Card on = cards[one.card];
        if (one.kind != ORDER || on.sent != day) return STATE;
        one.kind = kind == STANDING && on.holder != on.of ? PROXY : kind;
        one.first = a;
        one.second = kind == IF ? b : NONE;
        return one.kind;
    }

    public int ofOrder(int order, int what) {
        if (!isOrder(order)) return VOID;
        Order one = orders[order];
        switch (what) {
            case 0: return one.kind;
            case 1: return one.card;
            case 2: return one.piece;
            case 3: return one.what;
            case 4: return one.at;
            case 5: return one.first;
            case 6: return one.second;
            default: return VOID;
        }
    }

    public int read(int card, int shelf, int i, int n) {
        if (!isCard(card) || !isShelf(shelf) || n < 1 || n > 15) return BAD;
        if (cards[card].sent != day) return STATE;
        Shelf from = shelves[shelf];
        if (from.holds == Shelf.NOTHING) return 0;
        if (from.holds != Shelf.BYTE_ROW) return OTHER_KIND;
        int came = 0;
        for (int k = 0; k < n && orderCount < ORDERS; k++) {
            // Where i is far behind the row, the first round ends the loop: i + 4 * k never wraps.
            int at = i + 4 * k;
            if (i < 0 || at >= from.length) break;
            readFour(card, from, at);
            came++;
        }
        return came;
    }

    public int orderOf(int piece) {
        if (!isPiece(piece)) return VOID;
        int t = games[pieces[piece].game].turn;
        for (int i = orderCount - 1; i >= 0; i--) {
            if (orders[i].piece == piece && holdsGood(orders[i], t)) return i;
        }
        return NONE;
    }

    /** Whether the piece is there, and this can be told of it: a cell, or another piece of its game that is there. */
    private boolean isSound(int piece, int what, int at) {
        if (!isPiece(piece) || pieces[piece].gone) return false;
        if (what == MOVE) return isCell(at);
        if (what != HELP) return what == STAY;
        return isPiece(at) && at != piece && !pieces[at].gone && pieces[at].game == pieces[piece].game;
    }

    private static boolean isKindTold(int kind, int a, int b) {
        switch (kind) {
            case IF: return isCell(a) && (b == 0 || b == 1);
            case STANDING: return isTurn(a);
            case DEAL: return a >= 0 && a < ORDERS;
            default: return false;
        }
    }

    private void addOrder(int card, int kind, int piece, int what, int at) {
        Order made = orders[orderCount];
        made.card = card;
        made.kind = kind;
        made.piece = piece;
        made.what = what;
        made.at = at;
        orderCount++;
    }

    private void readFour(int card, Shelf from, int at) {
        if (at + 4 <= from.length) {
            int piece = (int) from.element[at], what = (int) from.element[at + 1], goal = (int) from.element[at + 2];
            boolean sound = from.element[at + 3] == 0 && isSound(piece, what, goal)
                && pieces[piece].holder == cards[card].of && canBe(piece, what, goal);
            if (sound) {
                addOrder(card, ORDER, piece, what, goal);
                return;
            }
        }
        addOrder(card, WRONG, NONE, 0, 0);
    }

    private boolean cardCounts(Card one) {
        if (one.turn == NONE) return false;
        if (!one.late()) return true;
        int found = ruleIn(holders[one.of].game, LATE, one.sentTurn, one.in);
        if (found == NONE) return true;
        clearNames();
        names[TURN_NAME] = one.sentTurn;
        names[HOLDER_NAME] = one.of;
        return rules[found].worth(names) != 0;
    }

    private boolean canBe(int piece, int what, int at) {
        Piece one = pieces[piece];
        if (what == MOVE) return isCell(at) && distance(one.cell, at) == 1 && !games[one.game].wall[at];
        if (what == HELP) return isPiece(at) && !pieces[at].gone;
        return true;
    }

    /** Whether an order's times fit turn t, and its holder, if it dropped by then, is still heard in it. */
    private boolean isOfTurn(Order one, Card on, int t) {
        boolean standing = one.kind == STANDING || one.kind == PROXY;
        if (standing ? on.turn > t || t > one.first : on.turn != t) return false;
        int dropped = holders[on.of].dropped;
        if (dropped == NONE || dropped > t) return true;
        return on.holder != on.of || standing && on.turn < dropped;
    }

    /** Whether an order counts for turn t, can be and may be: all but its IF and its DEAL. */
    private boolean fits(Order one, int t) {
        if (!isPiece(one.piece) || pieces[one.piece].gone || !isCard(one.card)) return false;
        Card on = cards[one.card];
        return isOfTurn(one, on, t) && cardCounts(on)
            && canBe(one.piece, one.what, one.at) && mayBe(one.piece, one.what, one.at, t);
    }

    private boolean holdsGood(Order one, int t) {
        if (!fits(one, t)) return false;
        if (one.kind == IF) {
            boolean empty = pieceIn(pieces[one.piece].game, one.first) == NONE;
            return empty == (one.second == 1);
        }
        if (one.kind != DEAL) return true;
        if (!isOrder(one.first)) return false;
        Order other = orders[one.first];
        boolean namesBack = other.kind == DEAL && isOrder(other.first) && orders[other.first] == one;
        return namesBack && fits(other, t);
    }

    // ---- turns

    public int done(int game) {
        if (!isGame(game)) return BAD;
        Game one = games[game];
        if (one.turn >= TURNS) return FULL;
        if (day < one.due(one.turn)) return NOT;
        doTurn(game, one.turn);
        one.turn++;
        return one.turn;
    }

    public int again(int game, int t) {
        if (!isGame(game) || !isTurn(t)) return BAD;
        Game one = games[game];
        if (t >= one.turn) return NOT;
        for (int p = 0; p < pieceCount; p++) {
            if (pieces[p].game == game) pieces[p].goBack(t);
        }
        for (int h = 0; h < holderCount; h++) {
            if (holders[h].game == game) holders[h].coins = holders[h].coinsAhead[t];
        }
        for (int i = t; i < one.turn; i++) doTurn(game, i);
        int other = 0;
        for (int p = 0; p < pieceCount; p++) {
            if (pieces[p].game == game && pieces[p].isElsewhere()) other++;
        }
        return other;
    }

    public int was(int piece, int t) {
        if (!isPiece(piece)) return BAD;
        Piece one = pieces[piece];
        if (t < 0 || t >= games[one.game].turn) return BAD;
        return one.goneAhead[t + 1] ? NOT : one.cellAhead[t + 1];
    }

    private void doTurn(int game, int t) {
        giveOrders(game, t);
        moves.workOut();
        for (int p = 0; p < pieceCount; p++) {
            if (pieces[p].game == game) moves.carryOut(p, t);
        }
        for (int h = 0; h < holderCount; h++) {
            if (holders[h].game == game) settle(h, t);
        }
        games[game].times++;
    }

    /** Each piece of a game that is there gets THE ORDER of turn t. */
    private void giveOrders(int game, int t) {
        moves.begin(game, pieceCount);
        for (int i = orderCount - 1; i >= 0; i--) {
            Order one = orders[i];
            if (!isPiece(one.piece) || pieces[one.piece].game != game) continue;
            if (moves.order[one.piece] == NONE && holdsGood(one, t)) {
                int tie = one.what == MOVE ? tieOf(one.piece, MOVE, one.at, t) : 0;
                moves.order[one.piece] = i;
                moves.give(one.piece, one.what, one.at, tie);
            }
        }
    }

    private boolean playsIn(int holder, int t) {
        int dropped = holders[holder].dropped;
        return dropped == NONE || dropped > t;
    }

    private void settle(int holder, int t) {
        Holder one = holders[holder];
        int fee = playsIn(holder, t) ? feeOf(holder, t, moves.numberAfter(holder)) : 0;
        one.coins = coinsAfter(holder, t);
        one.fee[t] = fee;
        one.coinsAhead[t + 1] = one.coins;
    }

    /** The coins of a holder behind turn t, by the moves as they were worked out. */
    private int coinsAfter(int holder, int t) {
        Holder one = holders[holder];
        if (!playsIn(holder, t)) return one.coins;
        int[] value = games[one.game].value;
        int more = 0;
        for (int p = 0; p < pieceCount; p++) {
            if (pieces[p].holder == holder && moves.after[p] != NONE) more += value[moves.after[p]];
        }
        return one.coins + more - feeOf(holder, t, moves.numberAfter(holder));
    }

    // ---- sheets

    public int sees(int holder, int cell) {
        if (!isHolder(holder) || !isCell(cell)) return BAD;
        if ((sheetOf(holder) >>> cell & 1L) == 0L) return UNSEEN;
        int there = pieceIn(holders[holder].game, cell);
        return there == NONE ? NOT : there;
    }

    public int alike(int a, int b) {
        if (!isHolder(a) || !isHolder(b) || holders[a].game != holders[b].game) return BAD;
        return CELLS - Long.bitCount(sheetOf(a) ^ sheetOf(b));
    }

    /** The cells that a holder sees, as bits. */
    private long sheetOf(int holder) {
        long seen = 0L;
        for (int p = 0; p < pieceCount; p++) {
            Piece one = pieces[p];
            if (one.holder != holder || one.gone) continue;
            int sight = sightOf(p);
            for (int c = 0; c < CELLS; c++) {
                if (distance(one.cell, c) <= sight) seen |= 1L << c;
            }
        }
        return seen;
    }

    // ---- best rows

    public int way(int piece, int what, int at) {
        if (!isSound(piece, what, at) || !canBe(piece, what, at)) return BAD;
        if (ways.told > 0 && pieces[piece].holder != pieces[ways.piece[0]].holder) return BAD;
        return ways.tell(piece, what, at);
    }

    public int best() {
        if (!canJudge()) return STATE;
        Piece one = pieces[ways.piece[0]];
        int holder = one.holder, t = games[one.game].turn;
        readyWays(one.game, t);
        int rows = ways.rows(), best = 0, coins = 0, number = 0;
        for (int r = 0; r < rows; r++) {
            ways.pick(r);
            int coinsNow = playRow(holder, t);
            int numberNow = moves.numberAfter(holder);
            if (r == 0 || coinsNow > coins || coinsNow == coins && numberNow > number) {
                best = r;
                coins = coinsNow;
                number = numberNow;
            }
        }
        ways.choose(best);
        return coins;
    }

    public int bestWay(int i) {
        return i < 0 || i >= ways.chosen ? BAD : ways.best[i];
    }

    public int judge(int row) {
        if (!canJudge() || !ways.pickDigits(row)) return VOID;
        Piece one = pieces[ways.piece[0]];
        int t = games[one.game].turn;
        readyWays(one.game, t);
        return playRow(one.holder, t);
    }

    private boolean canJudge() {
        return ways.told > 0 && games[pieces[ways.piece[0]].game].turn < TURNS;
    }

    /** The others get their orders, and each told way is looked at once, ahead of all the rows. */
    private void readyWays(int game, int t) {
        giveOrders(game, t);
        for (int s = 0; s < ways.told; s++) {
            int piece = ways.piece[s];
            for (int w = 0; w < ways.number[s]; w++) {
                int i = s * TOLD_WAYS + w;
                int what = ways.what[i], at = ways.at[i];
                boolean stands = !pieces[piece].gone && canBe(piece, what, at) && mayBe(piece, what, at, t);
                ways.done[i] = stands ? what : STAY;
                ways.tie[i] = stands && what == MOVE ? tieOf(piece, what, at, t) : 0;
            }
        }
    }

    /** The coins of the holder behind turn t by the row that is picked. */
    private int playRow(int holder, int t) {
        for (int s = 0; s < ways.told; s++) {
            int i = s * TOLD_WAYS + ways.picked[s];
            moves.give(ways.piece[s], ways.done[i], ways.at[i], ways.tie[i]);
        }
        moves.workOut();
        return coinsAfter(holder, t);
    }

    // ---- coins, bars

    public int pay(int holder, int coins) {
        if (!isHolder(holder) || coins < 1 || coins > 99999) return BAD;
        holders[holder].paid += coins;
        return holders[holder].paid;
    }

    public int bar(int game) {
        if (!isGame(game)) return BAD;
        int runner = games[game].runner;
        if (!isHolder(runner) || holders[runner].game != game) return 0;
        int bits = 1 << runner;
        for (int h = 0; h < holderCount; h++) {
            if (holders[h].proxy == runner) bits |= 1 << h;
        }
        return bits;
    }

    // ---- acts, shelves

    public int act(int order, int act, int x) {
        acts.begin();
        if (!isOrder(order) || act < 0 || act > 3) return 0;
        acts.of(order, orders[order]);
        return acts.run(act, orders[order].kind, x);
    }

    public int trace(int i) {
        return i < 0 || i >= acts.ran || i >= Acts.KEPT ? BAD : acts.body[i];
    }

    public int keep(int shelf, int order) {
        if (!isShelf(shelf) || order != NONE && !isOrder(order)) return BAD;
        Shelf on = shelves[shelf];
        on.holds = order == NONE ? Shelf.NOTHING : Shelf.AN_ORDER;
        on.order = order;
        return 1;
    }

    public int row(int shelf, int sort, int n) {
        if (!isShelf(shelf) || sort < Shelf.BYTE_ROW || sort > Shelf.BOOLEAN_ROW || n > ELEMENTS) return BAD;
        if (n < 0) return BELOW_ZERO;
        shelves[shelf].becomeRow(sort, n);
        return 1;
    }

    public int put(int shelf, int i, long v) {
        if (!isShelf(shelf)) return BAD;
        Shelf on = shelves[shelf];
        int refused = on.refusal(i);
        if (refused != 0) return refused;
        on.element[i] = on.cut(v);
        return 1;
    }

    public long element(int shelf, int i) {
        if (!isShelf(shelf)) return Long.MIN_VALUE;
        Shelf on = shelves[shelf];
        return on.refusal(i) != 0 ? Long.MIN_VALUE : on.element[i];
    }

    public int shift(int shelf, int i, int other, int j, int n) {
        if (!isShelf(shelf) || !isShelf(other)) return BAD;
        Shelf from = shelves[shelf], to = shelves[other];
        if (from.holds == Shelf.NOTHING || to.holds == Shelf.NOTHING) return NOTHING_THERE;
        if (!from.isRow() || from.holds != to.holds) return OTHER_KIND;
        if (!from.hasRun(i, n) || !to.hasRun(j, n)) return NO_PLACE;
        System.arraycopy(from.element, i, to.element, j, n);
        return n;
    }

    public int taken(int shelf, int k) {
        if (!isShelf(shelf) || k < BODY || k > WRONG) return BAD;
        Shelf on = shelves[shelf];
        if (on.holds == Shelf.NOTHING) return NOTHING_THERE;
        if (on.holds != Shelf.AN_ORDER || !isOrder(on.order)) return OTHER_KIND;
        int kind = orders[on.order].kind;
        return isUnder(kind, k) ? kind : OTHER_KIND;
    }

    public int check(int game) {
        if (!isGame(game)) return BAD;
        long held = 0L;
        boolean walled = false;
        for (int p = 0; p < pieceCount; p++) {
            Piece one = pieces[p];
            if (one.game != game || one.gone) continue;
            if ((held >>> one.cell & 1L) != 0L) return 1;
            held |= 1L << one.cell;
            if (games[game].wall[one.cell]) walled = true;
        }
        if (walled) return 2;
        for (int h = 0; h < holderCount; h++) {
            if (holders[h].game == game && !isBalanced(h)) return 3;
        }
        return 0;
    }

    public int count(int what) {
        switch (what) {
            case 0: return gameCount;
            case 1: return holderCount;
            case 2: return pieceCount;
            case 3: return piecesThere();
            case 4: return day;
            case 5: return ruleCount;
            case 6: return tape.length;
            case 7: return cardCount;
            case 8: return orderCount;
            case 9: return acts.ran;
            default: return BAD;
        }
    }

    private int piecesThere() {
        int there = 0;
        for (int p = 0; p < pieceCount; p++) {
            if (!pieces[p].gone) there++;
        }
        return there;
    }

    private static boolean isUnder(int kind, int above) {
        return above == BODY || kind == above || above == ORDER || above == STANDING && kind == PROXY;
    }

    /** Whether the kept coins behind the latest turn are those ahead of it, the values, less the fee. */
    private boolean isBalanced(int holder) {
        Holder one = holders[holder];
        Game in = games[one.game];
        int latest = in.turn - 1;
        if (latest < 0) return true;
        int due = one.coinsAhead[latest];
        if (playsIn(holder, latest)) {
            for (int p = 0; p < pieceCount; p++) {
                Piece its = pieces[p];
                if (its.holder == holder && !its.goneAhead[latest + 1]) due += in.value[its.cellAhead[latest + 1]];
            }
            due -= one.fee[latest];
        }
        return due == one.coinsAhead[latest + 1];
    }

    private static final class Game {
        int seed = 0, began = 0, turn = 0, runner = NONE, times = 0;
        final int[] value = new int[CELLS];
        final boolean[] wall = new boolean[CELLS];

        Game() {
            for (int c = 0; c < CELLS; c++) value[c] = 1;
        }

        int due(int t) {
            return began + DAYS_A_TURN * (t + 1);
        }

        /** The first turn not done that is due on a day or behind it; NONE. */
        int firstDue(int onDay) {
            for (int t = turn; t < TURNS; t++) {
                if (due(t) >= onDay) return t;
            }
            return NONE;
        }
    }

    private static final class Holder {
        int game = 0, coins = 0, dropped = NONE, proxy = NONE, paid = 0;
        // The coins ahead of each turn (those behind turn t stand at t + 1), and the fee of each.
        final int[] coinsAhead = new int[TURNS + 1];
        final int[] fee = new int[TURNS];

        int owed(int turnsDone) {
            int sum = 0;
            for (int t = 0; t < turnsDone && t < TURNS; t++) sum += fee[t];
            return sum;
        }
    }

    private static final class Piece {
        int game = 0, holder = 0, force = 0, cell = 0, led = NONE, failed = 0;
        boolean gone = false;
        // Where it was ahead of each turn (behind turn t: at t + 1).
        final int[] cellAhead = new int[TURNS + 1];
        final boolean[] goneAhead = new boolean[TURNS + 1];
        // Where it was ahead of the latest AGAIN.
        private int cellThen = 0;
        private boolean goneThen = false;

        void goBack(int t) {
            cellThen = cell;
            goneThen = gone;
            cell = cellAhead[t];
            gone = goneAhead[t];
        }

        /** One that is GONE is in no cell (its CELL tells only where it was), so one GONE then and now is as it was. */
        boolean isElsewhere() {
            return gone || goneThen ? gone != goneThen : cell != cellThen;
        }
    }

    private static final class Card {
        int holder = 0, of = 0, sent = 0, in = 0, sentTurn = 0, turn = NONE;

        boolean late() {
            return turn != NONE && turn != sentTurn;
        }
    }

    private static final class Order {
        int card = 0, kind = ORDER, piece = NONE, what = 0, at = 0, first = NONE, second = NONE;
    }

    /** A text as codes for a row of pending numbers: a number as it is, or one of the kinds below and what it takes. */
    private static final class Rule {
        static final int NAME = 10000, SIGN = 20000, SKIP = 30000, ANSWER = 40000, PENDING = 64;
        int game = 0, use = 0, made = 0, from = 0, length = 0;
        // Each byte of the tape gives one code at most, and its end one more.
        final int[] code = new int[BYTES + 1];
        private final int[] pending = new int[PENDING];

        void add(int c) {
            if (length >= code.length) return;
            code[length] = c;
            length++;
        }

        int worth(int[] named) {
            int high = 0;
            for (int i = 0; i < length; i++) {
                int c = code[i];
                if (c < SIGN) {
                    int v = c < NAME ? c : c - NAME < named.length ? named[c - NAME] : 0;
                    if (high >= PENDING) return 0;
                    pending[high] = v;
                    high++;
                } else if (high < 1) {
                    return 0;
                } else if (c == ANSWER) {
                    return pending[high - 1];
                } else if (c >= SKIP) {
                    high--;
                    if (pending[high] == 0) i = Math.max(i, c - SKIP - 1);
                } else if (c == SIGN + '!') {
                    pending[high - 1] = pending[high - 1] == 0 ? 1 : 0;
                } else if (c == SIGN + '~') {
                    pending[high - 1] = -pending[high - 1];
                } else if (high < 2) {
                    return 0;
                } else {
                    high--;
                    pending[high - 1] = joined(c - SIGN, pending[high - 1], pending[high]);
                }
            }
            return 0;
        }

        private static int joined(int sign, int a, int b) {
            switch (sign) {
                case '|': return a != 0 || b != 0 ? 1 : 0;
                case '&': return a != 0 && b != 0 ? 1 : 0;
                case '<': return a < b ? 1 : 0;
                case '=': return a == b ? 1 : 0;
                case '>': return a > b ? 1 : 0;
                case '+': return a + b;
                case '-': return a - b;
                case '*': return a * b;
                case '/': return b == 0 ? 0 : a / b;
                case '%': return b == 0 ? 0 : a % b;
                default: return 0;
            }
        }
    }

    /** The tape and its reader: where reading fails, its place is the fault. */
    private static final class Tape {
        private static final String NAMES = "tpfhcodvnzw";
        private static final int OPEN = 8, DIGITS = 4;
        int length = 0;
        private final int[] bytes = new int[BYTES];
        private int place = 0;

        void add(int b) {
            if (length >= BYTES) return;
            bytes[length] = b;
            length++;
        }

        private int next() {
            return place < length && place < BYTES ? bytes[place] : NONE;
        }

        /** The tape as the codes of a rule: its fault, or NONE. */
        int compile(Rule to) {
            to.length = 0;
            place = 0;
            for (int lines = 0; lines <= BYTES; lines++) {
                if (!line(to)) return place;
                if (place >= length) return NONE;
                if (next() != ';') return place;
                place++;
            }
            return place;
        }

        private boolean line(Rule to) {
            if (!either(to, 0)) return false;
            if (next() != '?') {
                to.add(Rule.ANSWER);
                return true;
            }
            place++;
            int skip = to.length;
            to.add(Rule.SKIP);
            if (!either(to, 0)) return false;
            to.add(Rule.ANSWER);
            if (skip < to.code.length) to.code[skip] = Rule.SKIP + to.length;
            return true;
        }

        private boolean either(Rule to, int open) {
            if (!both(to, open)) return false;
            for (int more = 0; more < BYTES && next() == '|'; more++) {
                place++;
                if (!both(to, open)) return false;
                to.add(Rule.SIGN + '|');
            }
            return true;
        }

        private boolean both(Rule to, int open) {
            if (!compared(to, open)) return false;
            for (int more = 0; more < BYTES && next() == '&'; more++) {
                place++;
                if (!compared(to, open)) return false;
                to.add(Rule.SIGN + '&');
            }
            return true;
        }

        private boolean compared(Rule to, int open) {
            if (!sum(to, open)) return false;
            int sign = next();
            if (sign != '<' && sign != '=' && sign != '>') return true;
            place++;
            if (!sum(to, open)) return false;
            to.add(Rule.SIGN + sign);
            return true;
        }

        private boolean sum(Rule to, int open) {
            if (!product(to, open)) return false;
            for (int more = 0; more < BYTES; more++) {
                int sign = next();
                if (sign != '+' && sign != '-') return true;
                place++;
                if (!product(to, open)) return false;
                to.add(Rule.SIGN + sign);
            }
            return true;
        }

        private boolean product(Rule to, int open) {
            if (!operand(to, open)) return false;
            for (int more = 0; more < BYTES; more++) {
                int sign = next();
                if (sign != '*' && sign != '/' && sign != '%') return true;
                place++;
                if (!operand(to, open)) return false;
                to.add(Rule.SIGN + sign);
            }
            return true;
        }

        private boolean operand(Rule to, int open) {
            int b = next();
            if (b >= '0' && b <= '9') {
                number(to);
                return true;
            }
            if (b != '(' && b != '!' && b != '-') return name(to, b);
            if (open >= OPEN) return false;
            place++;
            if (b != '(') {
                if (!operand(to, open + 1)) return false;
                to.add(Rule.SIGN + (b == '!' ? '!' : '~'));
                return true;
            }
            if (!either(to, open + 1) || next() != ')') return false;
            place++;
            return true;
        }

        private void number(Rule to) {
            int v = 0;
            for (int d = 0; d < DIGITS && next() >= '0' && next() <= '9'; d++) {
                v = 10 * v + next() - '0';
                place++;
            }
            to.add(v);
        }

        private boolean name(Rule to, int b) {
            int known = b < 0 ? NONE : NAMES.indexOf((char) b);
            if (known < 0) return false;
            to.add(Rule.NAME + known);
            place++;
            return true;
        }
    }

    /** A turn worked out: what each piece does, by what is as it begins, and where it is behind it. */
    private static final class Moves {
        final Piece[] pieces = new Piece[PIECES];
        private final int[] member = new int[PIECES];
        private int members = 0;
        final int[] order = new int[PIECES];
        final int[] after = new int[PIECES];
        private final int[] what = new int[PIECES];
        private final int[] at = new int[PIECES];
        private final int[] tie = new int[PIECES];
        private final int[] strength = new int[PIECES];
        private final int[] failed = new int[PIECES];
        private final boolean[] cut = new boolean[PIECES];
        private final int[] inCell = new int[CELLS];
        private final int[] first = new int[CELLS];
        private final boolean[] tied = new boolean[CELLS];

        Moves() {
            for (int p = 0; p < PIECES; p++) pieces[p] = new Piece();
        }

        /** All pieces of a game that are there STAY by no order. */
        void begin(int game, int pieceCount) {
            members = 0;
            for (int c = 0; c < CELLS; c++) inCell[c] = NONE;
            for (int p = 0; p < PIECES; p++) {
                order[p] = NONE;
                what[p] = STAY;
                failed[p] = 0;
                after[p] = NONE;
                if (p >= pieceCount || pieces[p].game != game || pieces[p].gone) continue;
                inCell[pieces[p].cell] = p;
                member[members] = p;
                members++;
            }
        }

        void give(int piece, int whatNow, int atNow, int tieNow) {
            what[piece] = whatNow;
            at[piece] = atNow;
            tie[piece] = tieNow;
        }

        void workOut() {
            measure();
            findFirst();
            failSwaps();
            boolean changed = true;
            for (int round = 0; changed && round <= members; round++) changed = failBlocked();
            for (int m = 0; m < members; m++) after[member[m]] = cellAfter(member[m]);
        }

        private int goal(int p) {
            return what[p] == MOVE ? at[p] : pieces[p].cell;
        }

        /** Cuts, then strengths (of one that does not move: its hold). */
        private void measure() {
            for (int m = 0; m < members; m++) {
                int p = member[m];
                cut[p] = false;
                failed[p] = 0;
                strength[p] = pieces[p].force;
            }
            for (int m = 0; m < members; m++) {
                int p = member[m];
                int there = what[p] == MOVE ? inCell[at[p]] : NONE;
                if (there != NONE && pieces[there].holder != pieces[p].holder) cut[there] = true;
            }
            for (int m = 0; m < members; m++) {
                int p = member[m];
                if (what[p] != HELP || cut[p]) continue;
                int helped = at[p];
                if (distance(pieces[p].cell, goal(helped)) == 1) strength[helped] += pieces[p].force;
            }
        }

        private void findFirst() {
            for (int c = 0; c < CELLS; c++) {
                first[c] = NONE;
                tied[c] = false;
            }
            for (int m = 0; m < members; m++) {
                int p = member[m];
                if (what[p] != MOVE) continue;
                int c = at[p];
                int more = first[c] == NONE ? 1 : compare(p, first[c]);
                if (more > 0) first[c] = p;
                if (more >= 0) tied[c] = more == 0;
            }
            for (int m = 0; m < members; m++) {
                int p = member[m];
                if (what[p] == MOVE && (first[at[p]] != p || tied[at[p]])) failed[p] = 1;
            }
        }

        private int compare(int p, int q) {
            if (strength[p] != strength[q]) return strength[p] > strength[q] ? 1 : -1;
            return Integer.compare(tie[p], tie[q]);
        }

        private void failSwaps() {
            for (int m = 0; m < members; m++) {
                int p = member[m];
                if (!goes(p)) continue;
                int q = inCell[at[p]];
                // A pair is looked at once, from its lower number, so that neither's failing hides the other's.
                if (q < p || !goes(q) || at[q] != pieces[p].cell) continue;
                if (strength[p] <= strength[q]) failed[p] = 2;
                if (strength[q] <= strength[p]) failed[q] = 2;
            }
        }

        /** One round of the third step: whether anything changed. */
        private boolean failBlocked() {
            boolean changed = false;
            for (int m = 0; m < members; m++) {
                int p = member[m];
                int there = goes(p) ? inCell[at[p]] : NONE;
                if (there == NONE || goes(there)) continue;
                int hold = what[there] == MOVE ? pieces[there].force : strength[there];
                if (pieces[there].holder == pieces[p].holder || hold >= strength[p]) {
                    failed[p] = 3;
                    changed = true;
                }
            }
            return changed;
        }

        private boolean goes(int p) {
            return what[p] == MOVE && failed[p] == 0;
        }

        private int cellAfter(int p) {
            if (goes(p)) return at[p];
            int comes = first[pieces[p].cell];
            return comes != NONE && goes(comes) ? NONE : pieces[p].cell;
        }

        int numberAfter(int holder) {
            int there = 0;
            for (int m = 0; m < members; m++) {
                if (pieces[member[m]].holder == holder && after[member[m]] != NONE) there++;
            }
            return there;
        }

        /** A piece of the game is as turn t leaves it. */
        void carryOut(int p, int t) {
            Piece one = pieces[p];
            one.led = order[p];
            one.failed = failed[p];
            one.gone = after[p] == NONE;
            if (!one.gone) one.cell = after[p];
            one.cellAhead[t + 1] = one.cell;
            one.goneAhead[t + 1] = one.gone;
        }
    }

    /** The told ways of best rows: those of the piece told as the s-th stand from s * TOLD_WAYS on. */
    private static final class Ways {
        int told = 0, chosen = 0;
        final int[] piece = new int[TOLD_PIECES];
        final int[] number = new int[TOLD_PIECES];
        final int[] what = new int[TOLD_PIECES * TOLD_WAYS];
        final int[] at = new int[TOLD_PIECES * TOLD_WAYS];
        // What comes of each way as things are, and its tie.
        final int[] done = new int[TOLD_PIECES * TOLD_WAYS];
        final int[] tie = new int[TOLD_PIECES * TOLD_WAYS];
        final int[] picked = new int[TOLD_PIECES];
        final int[] best = new int[TOLD_PIECES];

        /** How many ways the piece has then; FULL. */
        int tell(int one, int whatToDo, int where) {
            int s = placeOf(one);
            if (s >= TOLD_PIECES) return FULL;
            if (s == told) {
                piece[s] = one;
                number[s] = 0;
                told++;
            }
            if (number[s] >= TOLD_WAYS) return FULL;
            what[s * TOLD_WAYS + number[s]] = whatToDo;
            at[s * TOLD_WAYS + number[s]] = where;
            number[s]++;
            return number[s];
        }

        private int placeOf(int one) {
            for (int s = 0; s < told; s++) {
                if (piece[s] == one) return s;
            }
            return told;
        }

        int rows() {
            int rows = 1;
            for (int s = 0; s < told; s++) rows *= number[s];
            return rows;
        }

        /** The r-th row: the first piece's way changes last. */
        void pick(int r) {
            int rest = r;
            for (int s = told - 1; s >= 0; s--) {
                if (number[s] < 1) continue;
                picked[s] = rest % number[s];
                rest /= number[s];
            }
        }

        /** A row by decimal digits, the last piece's the lowest: whether there is such a row. */
        boolean pickDigits(int row) {
            int rest = row;
            for (int s = told - 1; s >= 0; s--) {
                picked[s] = rest % 10;
                if (picked[s] < 0 || picked[s] >= number[s]) return false;
                rest /= 10;
            }
            return rest == 0;
        }

        void choose(int r) {
            pick(r);
            for (int s = 0; s < told; s++) best[s] = picked[s];
            chosen = told;
            told = 0;
        }
    }

    /** The acts of one order. A kind that has no body of its own takes that of the next kind above. */
    private static final class Acts {
        static final int KEPT = 24;
        private static final int MEANS = 0, CLASHES = 1, HIDES = 2;
        final int[] body = new int[KEPT];
        int ran = 0;
        private int number = 0, piece = 0, what = 0, own = ORDER;

        void begin() {
            ran = 0;
        }

        void of(int order, Order one) {
            number = order;
            piece = one.piece;
            what = one.what;
            own = one.kind;
        }

        private void began(int numberOfBody) {
            if (ran < KEPT) body[ran] = numberOfBody;
            ran++;
        }

        int run(int act, int kind, int x) {
            switch (act) {
                case MEANS: return means(kind, x);
                case CLASHES: return clashes(kind, x);
                case HIDES: return hides(kind, x);
                default: return ends(kind, x);
            }
        }

        /** The body of this kind or of the next above it; each one's super names a higher kind: this ends at BODY. */
        private int means(int kind, int x) {
            switch (kind) {
                case BODY:
                    began(1);
                    return x + number;
                case DEAL:
                    began(50);
                    return means(ORDER, x) * 3;
                case WRONG:
                    began(70);
                    return means(ORDER, x) - what;
                default:
                    began(20);
                    return means(BODY, x) + piece;
            }
        }

        private int clashes(int kind, int x) {
            switch (kind) {
                case PROXY:
                    began(60);
                    return -clashes(STANDING, x);
                case STANDING:
                    began(40);
                    return clashes(ORDER, x) - 1;
                default:
                    began(10);
                    return means(own, x) * 2;
            }
        }

        private int hides(int kind, int x) {
            switch (kind) {
                case IF:
                    began(30);
                    int above = hides(ORDER, x);
                    return above + means(own, 2);
                case PROXY:
                    began(61);
                    return hides(STANDING, x) ^ 9;
                default:
                    began(11);
                    return x ^ number;
            }
        }

        private int ends(int kind, int x) {
            if (kind == STANDING || kind == PROXY) {
                began(41);
                return ends(ORDER, x + 1);
            }
            began(2);
            int clash = clashes(own, x);
            return clash - hides(own, 1);
        }
    }

    /** What a shelf holds: nothing, an order, or a row of one of five sorts. */
    private static final class Shelf {
        static final int NOTHING = -2, AN_ORDER = -1, BYTE_ROW = 0, SHORT_ROW = 1, INT_ROW = 2, BOOLEAN_ROW = 4;
        int holds = NOTHING, order = NONE, length = 0;
        final long[] element = new long[ELEMENTS];

        boolean isRow() {
            return holds >= BYTE_ROW;
        }

        void becomeRow(int sort, int n) {
            holds = sort;
            length = n;
            for (int i = 0; i < ELEMENTS; i++) element[i] = 0L;
        }

        /** Why there is no element i: a refusal, or 0. */
        int refusal(int i) {
            if (holds == NOTHING) return NOTHING_THERE;
            if (!isRow()) return OTHER_KIND;
            return i < 0 || i >= length ? NO_PLACE : 0;
        }

        boolean hasRun(int i, int n) {
            return n >= 0 && i >= 0 && n <= length && i <= length - n;
        }

        long cut(long v) {
            switch (holds) {
                case BYTE_ROW: return (byte) v;
                case SHORT_ROW: return (short) v;
                case INT_ROW: return (int) v;
                case BOOLEAN_ROW: return v != 0L ? 1L : 0L;
                default: return v;
            }
        }
    }
}

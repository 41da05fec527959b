import java.util.Random;

/** The edges of promises 12 to 16, sentence by sentence: the tape, texts and their faults, worths, what is in force. */
public final class RulesEdgesTest {
    private static final Due DUE = new Due("RulesEdgesTest");
    private static final int MIN = Integer.MIN_VALUE, MAX = Integer.MAX_VALUE;
    private static final String SIGNS = "1t+-*!()<=>|&?;x";

    public static void main(String[] args) {
        feedRefusals();
        theLowestFirst();
        aFullTape();
        ruleRefusals();
        twentyRules();
        aFaultEmptiesTheTape();
        bytesThatAreNoSigns();
        numbersOfFourDigits();
        anEmptyTape();
        lacking();
        oneComparison();
        eightOpen();
        oneQuestion();
        linesAreParted();
        allShortTexts();
        someLongTexts();
        wraps();
        byZero();
        trueIsOne();
        towardZero();
        firstLines();
        without();
        madeByThatDay();
        forThatTurn();
        theLastMade();
        inForceRefusals();
        sightIsHeld();
        feeIsHeld();
        saysRefusals();
        saysOfTheLastTurn();
        drawnEdges();
        drawnForTiesAlone();
        namesOfFees();
        namesOfLateCards();
        DUE.end();
    }

    /** Promise 12: "n (1 .. 4) .. BAD". */
    private static void feedRefusals() {
        PostTurns x = new PostTurns();
        int[] bad = {0, -1, 5, 8, MIN, MAX};
        for (int n : bad) DUE.is("12: feed(" + n + ")", x.feed(n, 49), -1);
        DUE.is("12: none came", x.count(6), 0);
        DUE.is("12: the least", x.feed(1, 49), 1);
        DUE.is("12: the most", x.feed(4, 0x31313131), 5);
    }

    /** Promise 12: "bytes .., the lowest of v first": also of a v below 0. */
    private static void theLowestFirst() {
        PostTurns x = new PostTurns();
        x.game(0);
        x.holder(0, 0);
        x.feed(4, 0x34333231);
        DUE.is("12: 1234", x.rule(4, 0), 0);
        DUE.is("15: 1234", x.says(4, 0), 1234);
        x.feed(3, 0x34333231);
        x.rule(4, 0);
        DUE.is("15: 123", x.says(4, 0), 123);
        x.feed(2, 0xff003231);
        x.rule(4, 0);
        DUE.is("15: 12", x.says(4, 0), 12);
        x.feed(1, 0xffffff39);
        x.rule(4, 0);
        DUE.is("15: 9", x.says(4, 0), 9);
        x.feed(4, 0xff31312b);
        DUE.is("13: the first is +", x.rule(4, 0), -100);
        x.feed(4, 0xff2b3131);
        DUE.is("13: the last is no sign", x.rule(4, 0), -103);
        DUE.is("13: the last rule is in force yet", x.says(4, 0), 9);
    }

    /** Promise 12: "FULL"; "THE TAPE (at most 160 bytes)": what has no room does not come in part either. */
    private static void aFullTape() {
        PostTurns x = new PostTurns();
        x.game(0);
        x.holder(0, 0);
        for (int i = 1; i <= 39; i++) DUE.is("12: how many it has", x.feed(4, 0x2b312b31), 4 * i);
        DUE.is("12: 157", x.feed(1, '1'), 157);
        DUE.is("12: no room for four", x.feed(4, 0), -3);
        DUE.is("12: BAD ahead of FULL", x.feed(5, 0), -1);
        DUE.is("12: BAD ahead of FULL", x.feed(0, 0), -1);
        DUE.is("12: none came", x.count(6), 157);
        DUE.is("12: room for three", x.feed(3, 0x352b2b), 160);
        for (int n = 1; n <= 4; n++) DUE.is("12: no room for " + n, x.feed(n, '1'), -3);
        DUE.is("44: 160", x.count(6), 160);
        DUE.is("13: the fault in the 159th", x.rule(4, 0), -100 - 158);
        DUE.is("12: room again", x.feed(4, 0), 4);
        x.rule(4, 0);
        for (int i = 0; i < 39; i++) x.feed(4, 0x2b312b31);
        x.feed(4, 0x39392b31);
        DUE.is("13: a text of 160 bytes", x.rule(4, 0), 0);
        DUE.is("15: its worth", x.says(4, 0), 79 + 99);
        for (int i = 0; i < 40; i++) x.feed(4, 0x2b312b31);
        DUE.is("13: it ends too early", x.rule(4, 0), -260);
    }

    /** Promise 13: "what: 10 times the GAME, and USE"; "from one on (0 .. 29)"; "BAD": the tape stays. */
    private static void ruleRefusals() {
        for (int games = 0; games <= 3; games++) {
            PostTurns x = new PostTurns();
            for (int g = 0; g < games; g++) x.game(g);
            x.feed(1, '?');
            for (int what = -11; what <= 42; what++) {
                boolean there = what >= 0 && what / 10 < games && what % 10 <= 4;
                if (!there) DUE.is("13: what " + what + " of " + games + " games", x.rule(what, 0), -1);
            }
            DUE.is("13: what", x.rule(MIN, 0), -1);
            DUE.is("13: what", x.rule(MAX, 0), -1);
            int[] badTurns = {-1, 30, 31, MIN, MAX};
            for (int from : badTurns) DUE.is("13: from " + from, x.rule(0, from), -1);
            DUE.is("13: the tape stays", x.count(6), 1);
        }
        PostTurns x = new PostTurns();
        for (int g = 0; g < 3; g++) x.game(g);
        int made = 0;
        for (int what = 0; what <= 24; what++) {
            if (what % 10 <= 4) DUE.is("13: what " + what, Due.rule(x, what, made % 2 * 29, "1"), made++);
        }
        DUE.is("44: fifteen", x.count(5), 15);
        for (int what = 0; what <= 24; what++) {
            if (what % 10 > 4) continue;
            int number = what / 10 * 5 + what % 10;
            DUE.is("14: of its game and use", x.inForce(what, 29, 0), number);
            DUE.is("14: of turn 0", x.inForce(what, 0, 0), number % 2 == 0 ? number : -2);
        }
    }

    /** Promise 13: "its number (0 .. 19). BAD, FULL (THE TAPE stays)": FULL ahead of a fault. */
    private static void twentyRules() {
        PostTurns x = new PostTurns();
        x.game(0);
        for (int r = 0; r < 20; r++) {
            DUE.is("13: a faulty one takes no room", Due.rule(x, 0, 0, "+"), -100);
            DUE.is("13: its number", Due.rule(x, 2, 0, "1"), r);
            DUE.is("44: so many", x.count(5), r + 1);
        }
        x.feed(2, 0x3131);
        DUE.is("13: FULL", x.rule(2, 0), -3);
        DUE.is("13: the tape stays", x.count(6), 2);
        x.feed(1, '?');
        DUE.is("13: FULL ahead of a fault", x.rule(2, 0), -3);
        DUE.is("13: BAD ahead of FULL", x.rule(5, 0), -1);
        DUE.is("13: BAD ahead of FULL", x.rule(2, 30), -1);
        DUE.is("13: the tape stays", x.count(6), 3);
        DUE.is("44: twenty", x.count(5), 20);
        DUE.is("14: the last", x.inForce(2, 0, 0), 19);
    }

    private static void fault(String text, int place) {
        PostTurns x = new PostTurns();
        x.game(0);
        DUE.is("13: rule " + text, Due.rule(x, 0, 0, text), place < 0 ? 0 : -100 - place);
        DUE.is("13: rules by " + text, x.count(5), place < 0 ? 1 : 0);
        DUE.is("13: the tape behind " + text, x.count(6), 0);
    }

    /** Promise 13: "-100 less its FAULT; THE TAPE is empty then", and no rule came. */
    private static void aFaultEmptiesTheTape() {
        PostTurns x = new PostTurns();
        x.game(0);
        DUE.is("13: a fault", Due.rule(x, 0, 0, "11+x"), -103);
        DUE.is("13: empty", x.count(6), 0);
        DUE.is("13: no rule", x.count(5), 0);
        DUE.is("14: none", x.inForce(0, 0, 0), -2);
        DUE.is("12: from its start", x.feed(1, '1'), 1);
        DUE.is("13: a rule", x.rule(0, 0), 0);
        DUE.is("13: empty", x.count(6), 0);
        DUE.is("13: it ends too early", x.rule(0, 0), -100);
    }

    /** "No blanks": every byte but the signs of a TEXT is a fault where it stands. */
    private static void bytesThatAreNoSigns() {
        String operands = "0123456789tpfhcodvnzw";
        for (int b = 0; b < 256; b++) {
            char sign = (char) b;
            int first = operands.indexOf(sign) >= 0 ? -1 : sign == '(' || sign == '!' || sign == '-' ? 1 : 0;
            fault("" + sign, first);
            boolean goesOn = "+-*/%<=>&|?;".indexOf(sign) >= 0;
            fault("t" + sign, goesOn ? 2 : 1);
            fault("t" + sign + "p", goesOn ? -1 : 1);
        }
        fault("T", 0);
        fault("1 +1", 1);
        fault("1+ 1", 2);
        fault("1\n", 1);
    }

    /** "a number (1 to 4 digits)". */
    private static void numbersOfFourDigits() {
        fault("1", -1);
        fault("12", -1);
        fault("123", -1);
        fault("1234", -1);
        fault("0000", -1);
        fault("9999", -1);
        fault("12345", 4);
        fault("00000", 4);
        fault("1+00001", 6);
        fault("1234p", 4);
        fault("(1234)5", 6);
        fault("12345678", 4);
        is("9999", 9999);
        is("0001", 1);
        is("0010", 10);
    }

    /** "the length, if it ends too early": of an empty tape 0. */
    private static void anEmptyTape() {
        PostTurns x = new PostTurns();
        x.game(0);
        DUE.is("13: nothing was fed", x.rule(0, 0), -100);
        DUE.is("13: nothing was fed", x.rule(4, 29), -100);
        DUE.is("44: no rule", x.count(5), 0);
    }

    /** "the length, if it ends too early": behind each sign that wants an operand; another byte there is its own place. */
    private static void lacking() {
        String[] signs = {"+", "-", "*", "/", "%", "<", "=", ">", "&", "|"};
        for (String sign : signs) {
            fault("1" + sign, 2);
            fault("1" + sign + ";1", 2);
            fault("1" + sign + "?1", 2);
            fault("1" + sign + ")", 2);
            fault("(1" + sign + ")", 3);
            fault("1" + sign + "*1", 2);
            fault("1" + sign + "|1", 2);
            fault("t?1" + sign, 4);
            fault("t?1" + sign + ";1", 4);
            fault("1" + sign + "!", 3);
            fault("1" + sign + "1", -1);
            fault("1" + sign + "-1", -1);
            fault("1" + sign + "(1", 4);
        }
        String[] open = {"(", "!", "-", "((", "(!", "-(", "1;", "1?", "1?1;", "0?(1)+"};
        for (String text : open) fault(text, text.length());
    }

    /** "B = S, or S < S, S = S, S > S": no second comparison but within brackets or behind & and |. */
    private static void oneComparison() {
        String[] signs = {"<", "=", ">"};
        for (String a : signs) {
            for (String b : signs) {
                fault("1" + a + "2" + b + "3", 3);
                fault("(1" + a + "2" + b + "3)", 4);
                fault("(1" + a + "2)" + b + "3", -1);
                fault("1" + a + "(2" + b + "3)", -1);
                fault("(1" + a + "2)" + b + "3" + a + "4", 7);
                fault("1" + a + "2&3" + b + "4", -1);
                fault("1" + a + "2|3" + b + "4", -1);
                fault("1" + a + "2;3" + b + "4", -1);
                fault("1" + a + "2?3" + b + "4", -1);
                fault("1" + a + "2+3" + b + "4", 5);
            }
        }
    }

    /** "At most 8 of ( ! - ahead of an O are open at once", in any part of a text; those closed are open no more. */
    private static void eightOpen() {
        char[] open = {'(', '!', '-'};
        Random random = new Random(8);
        String[] ahead = {"", "1+", "1*", "1<", "1|", "1&", "1?", "1;", "1?2;", "1-"};
        for (String part : ahead) {
            for (int i = 0; i < 12; i++) {
                StringBuilder eight = new StringBuilder(part), ends = new StringBuilder();
                for (int k = 0; k < 8; k++) {
                    char sign = i < 3 ? open[i] : open[random.nextInt(3)];
                    eight.append(sign);
                    if (sign == '(') ends.append(')');
                }
                fault(eight + "t" + ends, -1);
                fault(eight + "t" + ends + (part.equals("1<") ? "+" : "=") + "(!-1)", -1);
                for (char ninth : open) fault(eight.toString() + ninth + "t", part.length() + 8);
            }
        }
        fault("((((((((1)))))))+((((((((1))))))))", 24);
        fault("((((((((1))))))))+((((((((1))))))))", -1);
        fault("!!!!!!!!1+!!!!!!!!1", -1);
        fault("(!!!!!!!1+!!!!!!!1)", -1);
        fault("(!!!!!!!1+!!!!!!!!1)", 17);
        fault("!(-(!(-(1)+!1)))", -1);
        fault("(((((((1-(1)))))))))", 19);
    }

    /** "LINE: E, or E ? E": no second ?, none within brackets. */
    private static void oneQuestion() {
        fault("1?2", -1);
        fault("1?2?3", 3);
        fault("?1", 0);
        fault("1??2", 2);
        fault("(1?2)", 2);
        fault("1?(2?3)", 4);
        fault("1?2;3?4", -1);
        fault("1?2;3?4?5", 7);
        fault("1;2?3;4", -1);
    }

    /** "LINES, one or more, parted by ;". */
    private static void linesAreParted() {
        fault(";", 0);
        fault(";1", 0);
        fault("1;", 2);
        fault("1;;2", 2);
        fault("1;2;", 4);
        fault("(1;2)", 2);
        fault("1;2", -1);
        StringBuilder most = new StringBuilder("1");
        for (int i = 0; i < 79; i++) most.append(";1");
        fault(most.toString(), -1);
        fault(most + ";", 160);
        fault(";" + most, 0);
    }

    /** The first byte with which no text goes on, by a machine that keeps just what is open; the length; -1. */
    private static int faultOf(String text) {
        StringBuilder open = new StringBuilder();
        boolean wanted = true, asked = false;
        boolean[] compared = new boolean[200];
        int digits = 0, brackets = 0;
        for (int i = 0; i < text.length(); i++) {
            char c = text.charAt(i);
            boolean digit = c >= '0' && c <= '9';
            if (wanted && "(!-".indexOf(c) >= 0) {
                if (open.length() == 8) return i;
                open.append(c);
                if (c == '(') compared[++brackets] = false;
            } else if (wanted) {
                if (!digit && "tpfhcodvnzw".indexOf(c) < 0) return i;
                wanted = false;
                digits = digit ? 1 : 4;
                close(open);
            } else if (digit) {
                if (++digits > 4) return i;
            } else if (c == ')') {
                if (brackets == 0) return i;
                brackets--;
                open.setLength(open.length() - 1);
                close(open);
                digits = 4;
            } else if (";?".indexOf(c) >= 0) {
                if (brackets > 0 || c == '?' && asked) return i;
                asked = c == '?';
                compared[0] = false;
                wanted = true;
            } else if ("<=>".indexOf(c) >= 0) {
                if (compared[brackets]) return i;
                compared[brackets] = true;
                wanted = true;
            } else if ("+-*/%&|".indexOf(c) >= 0) {
                if (c == '&' || c == '|') compared[brackets] = false;
                wanted = true;
            } else {
                return i;
            }
        }
        return wanted || brackets > 0 ? text.length() : -1;
    }

    /** An operand that is there closes the ! and - ahead of it. */
    private static void close(StringBuilder open) {
        while (open.length() > 0 && open.charAt(open.length() - 1) != '(') open.setLength(open.length() - 1);
    }

    /** Promise 13: every text of up to four of these signs. */
    private static void allShortTexts() {
        for (int length = 0; length <= 4; length++) {
            int texts = 1;
            for (int i = 0; i < length; i++) texts *= SIGNS.length();
            PostTurns x = new PostTurns();
            x.game(0);
            for (int k = 0; k < texts; k++) {
                StringBuilder text = new StringBuilder();
                for (int i = 0, rest = k; i < length; i++, rest /= SIGNS.length()) {
                    text.append(SIGNS.charAt(rest % SIGNS.length()));
                }
                if (k % 50 == 0 || x.count(5) > 15) {
                    x = new PostTurns();
                    x.game(0);
                }
                int made = x.count(5), fault = faultOf(text.toString());
                DUE.is("13: rule " + text, Due.rule(x, 0, 0, text.toString()), fault < 0 ? made : -100 - fault);
            }
        }
    }

    /** Promise 13: texts that go on as long as one can choose, mostly, till 160 bytes. */
    private static void someLongTexts() {
        Random random = new Random(160);
        String signs = "0123456789tpfhcodvnzw((((!!--+*/%<=>|&?;)))))";
        for (int run = 0; run < 4000; run++) {
            StringBuilder text = new StringBuilder();
            int length = random.nextInt(161);
            while (text.length() < length) {
                text.append(signs.charAt(random.nextInt(signs.length())));
                int at = faultOf(text.toString());
                if (at >= 0 && at < text.length() && random.nextInt(100) > 0) text.setLength(text.length() - 1);
            }
            fault(text.toString(), faultOf(text.toString()));
        }
    }

    /** What a FEE text gives in turn 1 for holder 1, with two pieces and 30 coins, held within 0 .. 9999. */
    private static int held(String text) {
        PostTurns x = new PostTurns();
        x.game(0);
        x.holder(0, 0);
        x.holder(0, 28);
        x.piece(1, 0, 1);
        x.piece(1, 2, 1);
        x.days(7);
        x.done(0);
        DUE.is("13: rule " + text, Due.rule(x, 4, 0, text), 0);
        return x.says(4, 1);
    }

    /** The int that a text gives, out of parts that no holding changes. */
    private static void is(String text, int want) {
        String sign = held("(" + text + ")<0") == 1 ? "-" : "";
        int low = held(sign + "((" + text + ")%9999)"), high = held(sign + "((" + text + ")/9999%9999)");
        int top = held(sign + "((" + text + ")/9999/9999)");
        int size = low + 9999 * high + 9999 * 9999 * top;
        DUE.is("15: " + text, sign.isEmpty() ? size : -size, want);
    }

    /** "Ints that wrap". */
    private static void wraps() {
        String least = "2048*1024*1024";
        is(least, MIN);
        is(least + "-1", MAX);
        is(least + "+" + least, 0);
        is("-(" + least + ")", MIN);
        is("(" + least + ")/-1", MIN);
        is("(" + least + ")%-1", 0);
        is("(" + least + ")*-1", MIN);
        is("(" + least + "-1)+1", MIN);
        is("(" + least + "-1)*2", -2);
        is("4096*1024*1024", 0);
        is("9999*9999*9999", 9999 * 9999 * 9999);
        is("9999*9999*9999*9999", 9999 * 9999 * 9999 * 9999);
        is("-9999*9999*9999", -9999 * 9999 * 9999);
        is(least + "<0", 1);
        is(least + "-1>0", 1);
        is(least + "=" + least, 1);
        is("!(" + least + ")", 0);
        is(least + "&1", 1);
        is(least + "|0", 1);
    }

    /** "by 0 they give 0"; "all is worked out": what cannot be worked out elsewhere spoils nothing. */
    private static void byZero() {
        is("5/0", 0);
        is("5%0", 0);
        is("0/0", 0);
        is("0%0", 0);
        is("-5/0", 0);
        is("-5%0", 0);
        is("5/(1-1)", 0);
        is("(5/0)+7", 7);
        is("7+5%0", 7);
        is("5/0=0", 1);
        is("5%0=0", 1);
        is("1|1/0", 1);
        is("0&1/0", 0);
        is("0&1%0|1", 1);
    }

    /** "| & < = > ! give 1, 0". */
    private static void trueIsOne() {
        int[] worths = {0, 1, 2, -1, 9999};
        for (int a : worths) {
            for (int b : worths) {
                is(a + "|" + b, a != 0 || b != 0 ? 1 : 0);
                is(a + "&" + b, a != 0 && b != 0 ? 1 : 0);
                is(a + "<" + b, a < b ? 1 : 0);
                is(a + "=" + b, a == b ? 1 : 0);
                is(a + ">" + b, a > b ? 1 : 0);
            }
            is("!" + a, a == 0 ? 1 : 0);
            is("!!" + a, a == 0 ? 0 : 1);
            is("-" + (a < 0 ? "(" + a + ")" : "" + a), -a);
        }
    }

    /** "/ and % toward 0". */
    private static void towardZero() {
        int[] worths = {7, -7, 6, -6, 1, -1};
        for (int a : worths) {
            for (int b : new int[] {4, -4, 3, -3, 1, -1, 9, -9}) {
                is(a + "/" + b, a / b);
                is(a + "%" + b, a % b);
            }
        }
    }

    /** "The first LINE without a first E, or whose first E is not 0, counts; none: 0". */
    private static void firstLines() {
        is("7", 7);
        is("3", 3);
        DUE.is("15: 1?7", held("1?7"), 7);
        DUE.is("15: -1?7", held("-1?7"), 7);
        DUE.is("15: 0?7;1?8;9", held("0?7;1?8;9"), 8);
        DUE.is("15: 0?7;8;9", held("0?7;8;9"), 8);
        DUE.is("15: 1?0;9", held("1?0;9"), 0);
        DUE.is("15: 0;9", held("0;9"), 0);
        DUE.is("15: 0?7", held("0?7"), 0);
        PostTurns x = new PostTurns();
        x.game(0);
        x.holder(0, 0);
        x.piece(0, 0, 1);
        x.card(0, 0, 0);
        x.order(0, 0, 0, 0);
        DUE.is("23: may", x.orderOf(0), 0);
        Due.rule(x, 0, 0, "0?1");
        DUE.is("23: none counts: 0: it may not", x.orderOf(0), -1);
        Due.rule(x, 0, 0, "0?1;0?2;t?3");
        DUE.is("23: none of three counts", x.orderOf(0), -1);
        Due.rule(x, 0, 0, "0?0;0?0;0?0;-1");
        DUE.is("23: the last counts", x.orderOf(0), 0);
    }

    /** "Without any: MAY 1, TIE 0, SIGHT 2, LATE 1, FEE 0". */
    private static void without() {
        PostTurns x = new PostTurns();
        x.game(0);
        x.holder(0, 5);
        x.holder(0, 5);
        x.piece(0, 0, 1);
        x.piece(1, 7, 1);
        for (int use = 0; use < 5; use++) DUE.is("14: none", x.inForce(use, 0, 0), -2);
        x.card(0, 0, 0);
        x.order(0, 0, 1, 1);
        DUE.is("23: MAY 1", x.orderOf(0), 0);
        DUE.is("15: SIGHT 2", x.says(2, 0), 2);
        DUE.is("15: FEE 0", x.says(4, 0), 0);
        x.card(1, 1, 0);
        x.order(1, 1, 1, 1);
        x.days(1);
        x.card(0, 0, 9);
        DUE.is("18: late", x.ofCard(2, 4), 1);
        DUE.is("18: LATE 1", x.ofCard(2, 5), 1);
        x.days(6);
        x.done(0);
        DUE.is("24: TIE 0: both fail", x.ofPiece(0, 5) * 10 + x.ofPiece(1, 5), 11);
        DUE.is("24: FEE 0", x.ofHolder(0, 1), 6);
    }

    /** "AS KNOWN on DAY k: .. those made by k": on that day, too, not behind it. */
    private static void madeByThatDay() {
        PostTurns x = new PostTurns();
        x.game(0);
        x.days(5);
        Due.rule(x, 2, 0, "1");
        DUE.is("14: a day ahead", x.inForce(2, 0, 4), -2);
        DUE.is("14: on that day", x.inForce(2, 0, 5), 0);
        DUE.is("14: a day behind", x.inForce(2, 0, 6), 0);
        DUE.is("14: on day 0", x.inForce(2, 0, 0), -2);
        DUE.is("14: on the last day", x.inForce(2, 0, 999), 0);
        Due.rule(x, 2, 0, "2");
        DUE.is("14: of two of one day the last", x.inForce(2, 0, 5), 1);
    }

    /** "in force in TURN t ..: for TURN t or an earlier one". */
    private static void forThatTurn() {
        PostTurns x = new PostTurns();
        x.game(0);
        Due.rule(x, 2, 3, "1");
        Due.rule(x, 4, 29, "1");
        Due.rule(x, 0, 0, "1");
        for (int t = 0; t < 30; t++) {
            DUE.is("14: from 3 on, turn " + t, x.inForce(2, t, 0), t < 3 ? -2 : 0);
            DUE.is("14: from 29 on, turn " + t, x.inForce(4, t, 0), t < 29 ? -2 : 1);
            DUE.is("14: from 0 on, turn " + t, x.inForce(0, t, 0), 2);
        }
    }

    /** "the one made last", be it for an earlier TURN than the others. */
    private static void theLastMade() {
        PostTurns x = new PostTurns();
        x.game(0);
        Due.rule(x, 2, 9, "1");
        Due.rule(x, 2, 5, "1");
        Due.rule(x, 2, 7, "1");
        for (int t = 0; t < 12; t++) DUE.is("14: turn " + t, x.inForce(2, t, 0), t < 5 ? -2 : t < 7 ? 1 : 2);
        DUE.is("14: of turn 9 the last, too", x.inForce(2, 9, 0), 2);
    }

    /** Promise 14: "NOT: none. BAD": BAD first. */
    private static void inForceRefusals() {
        PostTurns x = new PostTurns();
        x.game(0);
        x.game(0);
        for (int what = -11; what <= 42; what++) {
            boolean there = what >= 0 && what / 10 < 2 && what % 10 <= 4;
            DUE.is("14: what " + what, x.inForce(what, 0, 0), there ? -2 : -1);
        }
        DUE.is("14: what", x.inForce(MIN, 0, 0), -1);
        DUE.is("14: what", x.inForce(MAX, 0, 0), -1);
        int[] badTurns = {-1, 30, 31, MIN, MAX};
        for (int t : badTurns) DUE.is("14: turn " + t, x.inForce(0, t, 0), -1);
        DUE.is("14: turn 29", x.inForce(0, 29, 0), -2);
        int[] badDays = {-1, 1000, MIN, MAX};
        for (int k : badDays) DUE.is("14: day " + k, x.inForce(0, 0, k), -1);
        DUE.is("14: day 999", x.inForce(0, 0, 999), -2);
        Due.rule(x, 10, 0, "1");
        DUE.is("14: use 0 of the second game", x.inForce(10, 0, 0), 0);
        DUE.is("14: use 0 of the first", x.inForce(0, 0, 0), -2);
        DUE.is("14: use 1 of the second", x.inForce(11, 0, 0), -2);
    }

    /** "SIGHT is held within 0 .. 9". */
    private static void sightIsHeld() {
        String[] text = {"0", "-1", "-9999", "1", "8", "9", "10", "9999", "2048*1024*1024", "2048*1024*1024-1"};
        int[] want = {0, 0, 0, 1, 8, 9, 9, 9, 0, 9};
        for (int i = 0; i < text.length; i++) {
            PostTurns x = new PostTurns();
            x.game(0);
            x.holder(0, 0);
            x.piece(0, 0, 1);
            Due.rule(x, 2, 0, text[i]);
            DUE.is("15: sight " + text[i], x.says(2, 0), want[i]);
            int seen = 0;
            for (int c = 0; c < 48; c++) seen += x.sees(0, c) == -5 ? 0 : 1;
            int by = 0;
            for (int c = 0; c < 48; c++) by += c / 6 + c % 6 <= want[i] ? 1 : 0;
            DUE.is("27: cells seen by sight " + text[i], seen, by);
        }
    }

    /** "FEE within 0 .. 9999", where it is said and where it is paid. */
    private static void feeIsHeld() {
        String[] text = {"0", "-1", "-9999", "1", "9998", "9999", "9999+1", "2048*1024*1024", "2048*1024*1024-1"};
        int[] want = {0, 0, 0, 1, 9998, 9999, 9999, 0, 9999};
        for (int i = 0; i < text.length; i++) {
            PostTurns x = new PostTurns();
            x.game(0);
            x.holder(0, 50);
            x.piece(0, 0, 1);
            Due.rule(x, 4, 0, text[i]);
            DUE.is("15: fee " + text[i], x.says(4, 0), want[i]);
            x.way(0, 0, 0);
            DUE.is("32: judged by it", x.judge(0), 51 - want[i]);
            x.days(7);
            x.done(0);
            DUE.is("24: paid", x.ofHolder(0, 1), 51 - want[i]);
            DUE.is("10: owed", x.ofHolder(0, 5), want[i]);
        }
    }

    /** Promise 15: "What SIGHT (use 2), FEE (4) is for a PIECE, a HOLDER .. BAD". */
    private static void saysRefusals() {
        PostTurns x = new PostTurns();
        x.game(0);
        x.holder(0, 0);
        x.holder(0, 0);
        x.piece(1, 0, 1);
        int[] bad = {-1, 0, 1, 3, 5, 12, 14, MIN, MAX};
        for (int use : bad) DUE.is("15: use " + use, x.says(use, 0), -1);
        int[] none = {-1, 2, 39, 40, MIN, MAX};
        for (int of : none) {
            DUE.is("15: sight of " + of, x.says(2, of), -1);
            DUE.is("15: fee of " + of, x.says(4, of), -1);
        }
        DUE.is("15: no piece 1", x.says(2, 1), -1);
        DUE.is("15: a holder 1", x.says(4, 1), 0);
        DUE.is("15: a piece 0", x.says(2, 0), 2);
    }

    /** Promise 15: "in the TURN its GAME is in": behind the last one that is 30. */
    private static void saysOfTheLastTurn() {
        PostTurns x = new PostTurns();
        x.game(0);
        x.holder(0, 0);
        x.piece(0, 0, 1);
        Due.rule(x, 2, 29, "t-25");
        Due.rule(x, 4, 29, "t");
        for (int i = 0; i < 4; i++) x.days(60);
        for (int t = 0; t <= 30; t++) {
            DUE.is("15: sight in turn " + t, x.says(2, 0), t < 29 ? 2 : t - 25);
            DUE.is("15: fee in turn " + t, x.says(4, 0), t < 29 ? 0 : t);
            x.done(0);
        }
        DUE.is("10: the fee of turn 29 alone", x.ofHolder(0, 5), 29);
    }

    /** Promise 16: "in a TURN (0 .. 29). BAD"; "(wrapping)". */
    private static void drawnEdges() {
        PostTurns x = new PostTurns();
        x.game(MAX);
        x.holder(0, 0);
        for (int p = 0; p < 40; p++) x.piece(0, p, 1);
        for (int p = 0; p < 40; p += 13) {
            for (int t = 0; t < 30; t++) {
                int s = MAX + 7919 * t + 104729 * p;
                int drawn = ((s * 1103515245 + 12345) >>> 8) % 100;
                DUE.is("16: drawn", x.drawn(p, t), drawn);
                DUE.holds("16: 0 .. 99", x.drawn(p, t) >= 0 && x.drawn(p, t) <= 99);
            }
        }
        int[] badTurns = {-1, 30, 31, MIN, MAX};
        for (int t : badTurns) DUE.is("16: turn " + t, x.drawn(0, t), -1);
        int[] none = {-1, 40, MIN, MAX};
        for (int p : none) DUE.is("16: piece " + p, x.drawn(p, 0), -1);
    }

    /** Two holders, a piece of each, in turn 2: each piece with an order, that of piece 1 is looked at ahead of the other's. */
    private static PostTurns inTurnTwo() {
        PostTurns x = new PostTurns();
        x.game(77);
        x.holder(0, 40);
        x.holder(0, 50);
        x.cell(3, 0, 8);
        x.piece(0, 2, 5);
        x.piece(1, 9, 5);
        x.piece(1, 40, 5);
        x.days(14);
        x.done(0);
        x.done(0);
        return x;
    }

    /** "z the number DRAWN for it (of TIE; else 0)": of MAY and SIGHT 0, behind a tie that was judged by it, too. */
    private static void drawnForTiesAlone() {
        PostTurns x = inTurnTwo();
        Due.rule(x, 1, 0, "z");
        Due.rule(x, 0, 0, "!z");
        Due.rule(x, 2, 0, "z");
        DUE.holds("16: none is drawn 0, nor are two alike", x.drawn(0, 2) > 0 && x.drawn(1, 2) > 0
            && x.drawn(0, 2) != x.drawn(1, 2));
        x.card(0, 0, 0);
        x.order(0, 0, 1, 3);
        x.card(1, 1, 0);
        x.order(1, 1, 1, 3);
        x.way(0, 1, 3);
        int first = x.drawn(0, 2) > x.drawn(1, 2) ? 0 : 1;
        DUE.is("32: judged by the tie", x.judge(0), 42 + (first == 0 ? 8 : 1));
        DUE.is("15: sight", x.says(2, 0), 0);
        DUE.is("23: may", x.orderOf(0) * 10 + x.orderOf(1), 1);
        x.days(7);
        x.done(0);
        DUE.is("9: both were led", x.ofPiece(0, 4) * 10 + x.ofPiece(1, 4), 1);
        DUE.is("9: one was first", x.ofPiece(first, 5) * 10 + x.ofPiece(1 - first, 5), 1);
        DUE.is("15: sight", x.says(2, 1), 0);
    }

    /** "of FEE t, h, n, w; others are 0", though others were just named for an order. */
    private static void namesOfFees() {
        PostTurns x = inTurnTwo();
        Due.rule(x, 0, 0, "1");
        Due.rule(x, 1, 0, "z");
        Due.rule(x, 4, 0, "p+f+c+o+d+v+z");
        x.card(1, 1, 0);
        x.order(0, 1, 1, 3);
        DUE.is("23: named", x.orderOf(1), 0);
        DUE.is("15: no others", x.says(4, 1), 0);
        x.days(7);
        x.done(0);
        DUE.is("10: no others", x.ofHolder(1, 5), 0);
        int[] want = {3, 1, 2, 50 + 2 + 2 + 9};
        String[] name = {"t", "h", "n", "w"};
        for (int i = 0; i < 4; i++) {
            Due.rule(x, 4, 0, name[i]);
            DUE.is("15: " + name[i], x.says(4, 1), want[i]);
        }
    }

    /** "Of LATE t alone is so, and h (for whom the CARD is)": t is the TURN it was sent in. */
    private static void namesOfLateCards() {
        PostTurns x = inTurnTwo();
        Due.rule(x, 0, 0, "1");
        x.drops(1, 0);
        x.card(0, 1, 0);
        x.order(0, 1, 1, 3);
        x.card(0, 1, 9);
        DUE.is("18: late", x.ofCard(1, 4), 1);
        String[] text = {"t=2", "h=1", "p", "f", "c", "o", "d", "v", "n", "z", "w", "p+f+c+o+d+v+n+z+w=0", "t=2&h=1", "t=3", "h=0"};
        int[] want = {1, 1, 0, 0, 0, 0, 0, 0, 0, 0, 0, 1, 1, 0, 0};
        for (int i = 0; i < text.length; i++) {
            Due.rule(x, 3, 0, text[i]);
            DUE.is("23: named", x.orderOf(1), 0);
            DUE.is("18: late by " + text[i], x.ofCard(1, 5), want[i]);
        }
        PostTurns y = new PostTurns();
        y.game(0);
        y.holder(0, 9);
        y.days(7);
        y.card(0, 0, 9);
        Due.rule(y, 3, 0, "!(t+h+p+f+c+o+d+v+n+z+w)");
        DUE.is("18: all are 0", y.ofCard(0, 5), 1);
    }
}

/** Promises 12 to 16: the tape, rules and their faults, what they say, numbers drawn. */
public final class RulesTest {
    private static final Due DUE = new Due("RulesTest");

    public static void main(String[] args) {
        feeding();
        making();
        faults();
        worths();
        lines();
        inForce();
        sights();
        fees();
        ties();
        drawn();
        DUE.end();
    }

    private static void feeding() {
        PostTurns x = new PostTurns();
        x.game(0);
        x.holder(0, 0);
        DUE.is("feed(0)", x.feed(0, 1), -1);
        DUE.is("feed(5)", x.feed(5, 1), -1);
        DUE.is("feed(-1)", x.feed(-1, 1), -1);
        DUE.is("n bytes, the lowest first", x.feed(2, 0x332b), 2);
        DUE.is("a sum lacks its first", x.rule(4, 0), -100);
        x.feed(3, 0x332b34);
        DUE.is("4+3", x.rule(4, 0), 0);
        DUE.is("7", x.says(4, 0), 7);
        x.feed(1, 0xffffff35);
        DUE.is("one byte of four", x.count(6), 1);
        DUE.is("5", x.rule(4, 0), 1);
        DUE.is("5", x.says(4, 0), 5);
        for (int i = 0; i < 39; i++) x.feed(4, 0x31313131);
        DUE.is("156", x.count(6), 156);
        DUE.is("159", x.feed(3, 0), 159);
        DUE.is("FULL", x.feed(2, 0), -3);
        DUE.is("BAD ahead of FULL", x.feed(9, 0), -1);
        DUE.is("160", x.feed(1, 0), 160);
        DUE.is("FULL", x.feed(1, 0), -3);
        DUE.is("a fault", x.rule(4, 0), -104);
        DUE.is("empty", x.count(6), 0);
    }

    private static void making() {
        PostTurns x = new PostTurns();
        DUE.is("no game", x.rule(0, 0), -1);
        x.game(0);
        x.game(0);
        x.feed(1, '1');
        DUE.is("use 5", x.rule(5, 0), -1);
        DUE.is("use 9", x.rule(19, 0), -1);
        DUE.is("game 2", x.rule(20, 0), -1);
        DUE.is("what -1", x.rule(-1, 0), -1);
        DUE.is("turn 30", x.rule(0, 30), -1);
        DUE.is("turn -1", x.rule(0, -1), -1);
        DUE.is("the tape stays", x.count(6), 1);
        DUE.is("rule", x.rule(14, 29), 0);
        DUE.is("the tape is empty", x.count(6), 0);
        for (int i = 1; i < 20; i++) DUE.is("rule", Due.rule(x, i % 5, 0, "1"), i);
        DUE.is("FULL", Due.rule(x, 0, 0, "?"), -3);
        DUE.is("the tape stays", x.count(6), 1);
        DUE.is("BAD ahead of FULL", x.rule(5, 0), -1);
        DUE.is("rules", x.count(5), 20);
    }

    private static void fault(String text, int place) {
        PostTurns x = new PostTurns();
        x.game(0);
        DUE.is("rule " + text, Due.rule(x, 0, 0, text), place < 0 ? 0 : -100 - place);
        DUE.is("rules by " + text, x.count(5), place < 0 ? 1 : 0);
        DUE.is("the tape behind " + text, x.count(6), 0);
    }

    private static void faults() {
        String[] sound = {"1", "t", "0000", "9999", "t+p*f/h%c-o", "d|v&n<z|w", "(t)", "((((((((t))))))))", "!!!!!!!!t",
            "--------1", "-1--1", "!t;t?1;0", "t=1?2", "(t=1)=(p=1)", "(t)+(t)+(t)", "!(-(!(-t)))", "(((((((-1)))))))+!!!!!!!!1",
            "1<2&3<4|5>6", "t?p;f?h;0", "(1<2)<3"};
        for (String text : sound) fault(text, -1);
        fault("", 0);
        fault(" 1", 0);
        fault("1 ", 1);
        fault("12345", 4);
        fault("12a", 2);
        fault("tp", 1);
        fault("t1", 1);
        fault("x", 0);
        fault("T", 0);
        fault(")", 0);
        fault("(1", 2);
        fault("(1;", 2);
        fault("(1?2)", 2);
        fault("1)", 1);
        fault("()", 1);
        fault("1+", 2);
        fault("+1", 0);
        fault("1++1", 2);
        fault("1+*1", 2);
        fault("1!", 1);
        fault("1=2=3", 3);
        fault("1<2>3", 3);
        fault("1||1", 2);
        fault("1&&1", 2);
        fault("?1", 0);
        fault("1?", 2);
        fault("1?2?3", 3);
        fault("1;", 2);
        fault(";1", 0);
        fault("1;;1", 2);
        fault("1?2;3?", 6);
        fault("(((((((((1", 8);
        fault("!!!!!!!!!1", 8);
        fault("---------1", 8);
        fault("!-(!-(!-(1", 8);
        fault("(!(!(!(!t)))))", 13);
        fault("t" + (char) 200, 1);
        fault("t" + (char) 0, 1);
        StringBuilder most = new StringBuilder("t");
        for (int i = 0; i < 79; i++) most.append("+t");
        fault(most.toString(), -1);
        fault(most + "+", 160);
        StringBuilder lines = new StringBuilder("0?1");
        for (int i = 0; i < 39; i++) lines.append(";0?1");
        fault(lines.toString(), -1);
    }

    /** What a FEE text gives with t 1, h 1, n 2, w 30; it is held within 0 .. 9999. */
    private static void worth(String text, int want) {
        PostTurns x = new PostTurns();
        x.game(0);
        x.holder(0, 0);
        x.holder(0, 28);
        x.piece(1, 0, 1);
        x.piece(1, 2, 1);
        x.days(7);
        x.done(0);
        DUE.is("rule " + text, Due.rule(x, 4, 0, text), 0);
        DUE.is(text, x.says(4, 1), want);
    }

    private static void worths() {
        worth("7", 7);
        worth("0042", 42);
        worth("2+3*4", 14);
        worth("(2+3)*4", 20);
        worth("20-3-4", 13);
        worth("100/7/2", 7);
        worth("100%7*3", 6);
        worth("7/0", 0);
        worth("7%0", 0);
        worth("-7/2+10", 7);
        worth("-7%4+10", 7);
        worth("--5", 5);
        worth("9--5", 14);
        worth("-5", 0);
        worth("9999+1", 9999);
        worth("!0+!5", 1);
        worth("!-1+3", 3);
        worth("1<2", 1);
        worth("2<2", 0);
        worth("3>2", 1);
        worth("2>2", 0);
        worth("2=2", 1);
        worth("2=3", 0);
        worth("5|0", 1);
        worth("0|0", 0);
        worth("0|0|7", 1);
        worth("5&7", 1);
        worth("5&0", 0);
        worth("1|0&0", 1);
        worth("0&0|1", 1);
        worth("1+1=2&3>2", 1);
        worth("0-1<0", 1);
        worth("-(9999*9999*9999)/9999/100", 1027);
        worth("t*1000+h*100+n*10", 1120);
        worth("w", 30);
        worth("p+f+c+o+d+v+z", 0);
        worth("!(p+f+c+o+d+v+z)*(t+h+n+w)", 34);
    }

    private static void lines() {
        StringBuilder most = new StringBuilder("-1");
        for (int i = 0; i < 79; i++) most.append("+1");
        worth(most.toString(), 78);
        worth("0?1;0?2;3", 3);
        worth("0?1;1?2;3", 2);
        worth("5;6", 5);
        worth("0?5", 0);
        worth("0?5;0?6", 0);
        worth("0;6", 0);
        worth("-1?4;6", 4);
        worth("t=1?11;t=2?22", 11);
        worth("t=0?11;n=2?22;33", 22);
        worth("0?1;0?2;0?3;t?44;55", 44);
    }

    private static void inForce() {
        PostTurns x = new PostTurns();
        x.game(0);
        x.game(0);
        DUE.is("none", x.inForce(2, 0, 0), -2);
        Due.rule(x, 2, 3, "1");
        x.days(5);
        Due.rule(x, 2, 0, "2");
        Due.rule(x, 12, 0, "3");
        x.days(5);
        Due.rule(x, 2, 5, "4");
        Due.rule(x, 3, 0, "5");
        DUE.is("turn 2 on day 4", x.inForce(2, 2, 4), -2);
        DUE.is("turn 3 on day 4", x.inForce(2, 3, 4), 0);
        DUE.is("turn 3 on day 5", x.inForce(2, 3, 5), 1);
        DUE.is("turn 29 on day 0", x.inForce(2, 29, 0), 0);
        DUE.is("turn 4 on day 10", x.inForce(2, 4, 10), 1);
        DUE.is("turn 5 on day 9", x.inForce(2, 5, 9), 1);
        DUE.is("turn 5 on day 10", x.inForce(2, 5, 10), 3);
        DUE.is("turn 5 on day 999", x.inForce(2, 5, 999), 3);
        DUE.is("of the other game", x.inForce(12, 5, 10), 2);
        DUE.is("of the other use", x.inForce(3, 0, 10), 4);
        DUE.is("other game's other use", x.inForce(13, 0, 10), -2);
        DUE.is("use 5", x.inForce(5, 0, 0), -1);
        DUE.is("game 2", x.inForce(22, 0, 0), -1);
        DUE.is("what -1", x.inForce(-1, 0, 0), -1);
        DUE.is("turn -1", x.inForce(2, -1, 0), -1);
        DUE.is("turn 30", x.inForce(2, 30, 0), -1);
        DUE.is("day -1", x.inForce(2, 0, -1), -1);
        DUE.is("day 1000", x.inForce(2, 0, 1000), -1);
    }

    private static void sights() {
        PostTurns x = new PostTurns();
        x.game(0);
        x.holder(0, 0);
        x.holder(0, 6);
        x.cell(8, 0, 7);
        x.piece(0, 0, 1);
        x.piece(1, 8, 4);
        DUE.is("without a rule", x.says(2, 1), 2);
        String[] text = {"t", "p", "f", "h", "c", "o", "d", "v", "n", "z", "w"};
        int[] want = {0, 1, 4, 1, 8, 0, 8, 7, 1, 0, 6};
        for (int i = 0; i < text.length; i++) {
            Due.rule(x, 2, 0, text[i]);
            DUE.is("sight " + text[i], x.says(2, 1), want[i]);
        }
        Due.rule(x, 2, 0, "c+v");
        DUE.is("held within 9", x.says(2, 1), 9);
        Due.rule(x, 2, 0, "-c");
        DUE.is("held within 0", x.says(2, 1), 0);
        Due.rule(x, 2, 1, "5");
        DUE.is("not of this turn", x.says(2, 1), 0);
        DUE.is("no piece", x.says(2, 2), -1);
        DUE.is("use 0", x.says(0, 0), -1);
        DUE.is("use 1", x.says(1, 0), -1);
        DUE.is("use 3", x.says(3, 0), -1);
        DUE.is("use 5", x.says(5, 0), -1);
        DUE.is("piece -1", x.says(2, -1), -1);
        DUE.is("no holder", x.says(4, 2), -1);
        DUE.is("holder -1", x.says(4, -1), -1);
        DUE.is("fee without a rule", x.says(4, 1), 0);
    }

    /** FEES: n behind the moves, w ahead of the values; by the rule of the turn and of the game; not of who dropped. */
    private static void fees() {
        PostTurns x = new PostTurns();
        x.game(0);
        x.holder(0, 100);
        x.holder(0, 50);
        x.piece(0, 0, 5);
        x.piece(1, 1, 1);
        x.piece(1, 30, 1);
        Due.rule(x, 4, 0, "n*10+(w=50)");
        Due.rule(x, 4, 1, "t*100");
        x.card(0, 0, 0);
        x.order(0, 0, 1, 1);
        x.days(7);
        x.done(0);
        DUE.is("one is gone", x.ofPiece(1, 3), 1);
        DUE.is("coins", x.ofHolder(1, 1), 50 + 1 - 11);
        DUE.is("owed", x.ofHolder(1, 5), 11);
        DUE.is("of a gone one's holder too", x.says(4, 1), 100);
        DUE.is("of a gone piece too", x.says(2, 1), 2);
        x.drops(1, -1);
        DUE.is("of one who dropped too", x.says(4, 1), 100);
        x.days(7);
        x.done(0);
        DUE.is("one who dropped pays nothing", x.ofHolder(1, 1), 40);
        DUE.is("owed stays", x.ofHolder(1, 5), 11);
        DUE.is("the other pays", x.ofHolder(0, 1), 100 + 1 - 10 + 1 - 100);
        DUE.is("check", x.check(0), 0);
    }

    /** A TIE text is asked of the one that moves: each name by a tie between pieces 0 and 1. */
    private static void tie(String text, int winner) {
        PostTurns x = new PostTurns();
        x.game(5);
        x.holder(0, 7);
        x.holder(0, 3);
        x.cell(1, 0, 8);
        x.piece(0, 0, 2);
        x.piece(1, 7, 2);
        x.piece(1, 40, 1);
        Due.rule(x, 1, 0, text);
        x.card(0, 0, 0);
        x.card(1, 1, 0);
        x.order(0, 0, 1, 1);
        x.order(1, 1, 1, 1);
        x.days(7);
        x.done(0);
        DUE.is("first by " + text, x.ofPiece(0, 5), winner == 0 ? 0 : 1);
        DUE.is("second by " + text, x.ofPiece(1, 5), winner == 1 ? 0 : 1);
    }

    private static void ties() {
        tie("0", -1);
        tie("t", -1);
        tie("p", 1);
        tie("-p", 0);
        tie("f", -1);
        tie("h", 1);
        tie("c", 1);
        tie("-c", 0);
        tie("o", -1);
        tie("o=1?p;-p", 1);
        tie("d", -1);
        tie("d=1?p;-p", 1);
        tie("v=8?p;-p", 1);
        tie("n", 1);
        tie("w", 0);
        int drawn0 = drawn(5, 0, 0);
        int drawn1 = drawn(5, 1, 0);
        tie("z", drawn0 > drawn1 ? 0 : drawn1 > drawn0 ? 1 : -1);
        tie("-z", drawn0 < drawn1 ? 0 : drawn1 < drawn0 ? 1 : -1);
    }

    private static int drawn(int seed, int piece, int t) {
        long s = (int) (seed + 7919L * t + 104729L * piece);
        int mixed = (int) (s * 1103515245L + 12345L);
        return (int) (((mixed & 0xffffffffL) >> 8) % 100);
    }

    private static void drawn() {
        int[] seeds = {77, Integer.MIN_VALUE, Integer.MAX_VALUE};
        PostTurns x = new PostTurns();
        for (int g = 0; g < 3; g++) {
            x.game(seeds[g]);
            x.holder(g, 0);
        }
        for (int p = 0; p < 30; p++) x.piece(p % 3, p, 1);
        for (int p = 0; p < 30; p++) {
            for (int t = 0; t < 30; t += 7) DUE.is("drawn", x.drawn(p, t), drawn(seeds[p % 3], p, t));
        }
        DUE.is("no piece", x.drawn(30, 0), -1);
        DUE.is("piece -1", x.drawn(-1, 0), -1);
        DUE.is("turn 30", x.drawn(0, 30), -1);
        DUE.is("turn -1", x.drawn(0, -1), -1);
    }
}

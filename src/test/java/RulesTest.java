/** Promises 4 and 22: when rules let a riddle be open. */
public final class RulesTest {
    private static final Check CHECK = new Check("RulesTest");

    public static void main(String[] args) {
        facts();
        minutes();
        joins();
        roundsThatGrow();
        calls();
        CHECK.end();
    }

    /** Riddles 0 to 5, "a" to "f", of rounds 0 0 1 1 5 5; team 0 has solved those of the bits. */
    private static Hand hand(int solved) {
        Hand hand = new Hand();
        int[] rounds = {0, 0, 1, 1, 5, 5};
        for (int r = 0; r < 6; r++) {
            hand.riddle(0, rounds[r], String.valueOf((char) ('a' + r)));
        }
        hand.riddle(0, 2, "x");
        hand.house.team();
        for (int r = 0; r < 6; r++) {
            if ((solved >> r & 1) == 1) {
                CHECK.due("solving", hand.guess(0, r, String.valueOf((char) ('a' + r))), 1);
            }
        }
        return hand;
    }

    private static void open(String rule, int solved, int want) {
        Hand hand = hand(solved);
        CHECK.due("rule '" + rule + "'", hand.rule(6, rule), true);
        CHECK.due("'" + rule + "' with " + solved, hand.house.open(0, 6), want);
    }

    private static void facts() {
        open("solved 0", 0, 1);
        open("solved 1", 0, 0);
        open("solved 1", 8, 1);
        open("solved 3", 3, 0);
        open("solved 3", 7, 1);
        open("solved 20", 63, 0);
        open("riddle 0", 0, 0);
        open("riddle 0", 1, 1);
        open("riddle 5", 31, 0);
        open("riddle 5", 32, 1);
        open("riddle 6", 63, 0);
        open("round 0 0", 0, 1);
        open("round 0 1", 2, 1);
        open("round 0 2", 2, 0);
        open("round 0 2", 3, 1);
        open("round 0 3", 63, 0);
        open("round 1 1", 3 + 48, 0);
        open("round 5 2", 48, 1);
        open("round 2 0", 63, 1);
        open("round 2 1", 63, 0);
        open("round 4 0", 0, 1);
    }

    private static void minutes() {
        Hand hand = hand(0);
        hand.rule(6, "minute 10");
        CHECK.due("minute 0", hand.house.open(0, 6), 0);
        hand.house.pass(9);
        CHECK.due("minute 9", hand.house.open(0, 6), 0);
        hand.house.pass(1);
        CHECK.due("minute 10", hand.house.open(0, 6), 1);
        hand.house.team();
        CHECK.due("the hunt's minute, not a team's", hand.house.open(1, 6), 1);
        hand.house.pass(1000);
        CHECK.due("minute 1010", hand.house.open(0, 6), 1);
        open("minute 0", 0, 1);
    }

    private static void joins() {
        for (int bits = 0; bits < 8; bits++) {
            boolean a = (bits & 1) != 0;
            boolean b = (bits & 2) != 0;
            boolean c = (bits & 4) != 0;
            open("riddle 0 or riddle 1 and riddle 2", bits, a || b && c ? 1 : 0);
            open("riddle 0 and riddle 1 or riddle 2", bits, a && b || c ? 1 : 0);
            open("(riddle 0 or riddle 1) and riddle 2", bits, (a || b) && c ? 1 : 0);
            open("riddle 0 and (riddle 1 or riddle 2)", bits, a && (b || c) ? 1 : 0);
            open("not riddle 0 and riddle 1", bits, !a && b ? 1 : 0);
            open("not (riddle 0 and riddle 1) or riddle 2", bits, !(a && b) || c ? 1 : 0);
            open("not not riddle 0 and not not not riddle 2", bits, a && !c ? 1 : 0);
            open("riddle 0 or riddle 1 or riddle 2", bits, a || b || c ? 1 : 0);
            open("riddle 0 and riddle 1 and riddle 2", bits, a && b && c ? 1 : 0);
            open("not(riddle 0 or not(riddle 1 or not(riddle 2 and not riddle 0)))", bits,
                !(a || !(b || !(c && !a))) ? 1 : 0);
            open("riddle 0 and riddle 1 or not riddle 0 and riddle 2 or riddle 1 and not riddle 2", bits,
                a && b || !a && c || b && !c ? 1 : 0);
        }
    }

    private static void roundsThatGrow() {
        Hand hand = hand(0);
        hand.rule(6, "round 3 2");
        hand.riddle(0, 3, "g");
        hand.riddle(0, 3, "h");
        hand.guess(0, 7, "g");
        CHECK.due("one of two", hand.house.open(0, 6), 0);
        hand.guess(0, 8, "h");
        CHECK.due("riddles that came behind the rule count", hand.house.open(0, 6), 1);
        hand.rule(6, "round 3 3");
        CHECK.due("in place of the former one", hand.house.open(0, 6), 0);
    }

    private static void calls() {
        Hand hand = hand(1);
        CHECK.due("without a rule", hand.house.open(0, 6), 1);
        CHECK.due("accepted", hand.house.trouble(), 0);
        CHECK.due("a solved one", hand.house.open(0, 0), 1);
        int[][] none = {{1, 0}, {-1, 0}, {0, 7}, {0, -1}, {8, 0}, {0, 20}};
        for (int[] call : none) {
            hand.house.states(0);
            CHECK.due("none such", hand.house.open(call[0], call[1]), -1);
            CHECK.due("its trouble", hand.house.trouble(), 1);
        }
        hand.rule(0, "not riddle 0");
        CHECK.due("a solved one may be shut", hand.house.open(0, 0), 0);
        hand.house.team();
        CHECK.due("each team has its own", hand.house.open(1, 0), 1);
    }
}

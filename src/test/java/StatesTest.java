/** Promises 28 to 31: all that rules let come. */
public final class StatesTest {
    private static final Check CHECK = new Check("StatesTest");

    public static void main(String[] args) {
        states();
        bound();
        shut();
        firstShut();
        shortest();
        dead();
        teamsOfNoMatter();
        refusals();
        CHECK.end();
    }

    private static Hand hand(int plain, boolean last) {
        Hand hand = new Hand();
        for (int r = 0; r < plain; r++) {
            hand.riddle(0, r % 6, "a");
        }
        if (last) {
            hand.riddle(2, 0, "z");
        }
        return hand;
    }

    /** The rules of the first riddles; an empty one is always open. */
    private static void rules(Hand hand, String... rules) {
        for (int r = 0; r < rules.length; r++) {
            String rule = rules[r].isEmpty() ? "solved 0" : rules[r];
            CHECK.due("rule '" + rule + "'", hand.rule(r, rule), true);
        }
    }

    private static void states() {
        CHECK.due("none", hand(0, false).house.states(0), 1);
        CHECK.due("one", hand(1, false).house.states(0), 2);
        CHECK.due("nine that are open", hand(9, false).house.states(0), 512);
        Hand chain = hand(20, false);
        for (int r = 1; r < 20; r++) {
            chain.rule(r, "riddle " + (r - 1));
        }
        CHECK.due("a chain", chain.house.states(0), 21);
        CHECK.due("not refused", chain.house.trouble(), 0);
        Hand timed = hand(2, false);
        rules(timed, "minute 10", "round 0 1 and not minute 20");
        CHECK.due("at 9", timed.house.states(9), 1);
        CHECK.due("at 10", timed.house.states(10), 3);
        CHECK.due("at 20", timed.house.states(20), 2);
        CHECK.due("at 9,999", timed.house.states(9999), 2);
        Hand either = hand(2, false);
        rules(either, "not riddle 1", "not riddle 0");
        CHECK.due("one or the other", either.house.states(0), 3);
    }

    private static void bound() {
        Hand ten = hand(10, true);
        CHECK.due("2,048", ten.house.states(0), -1);
        CHECK.due("its trouble", ten.house.trouble(), 10);
        CHECK.due("dead", ten.house.dead(0), -1);
        CHECK.due("its trouble", ten.house.trouble(), 10);
        ten.house.team();
        CHECK.due("shut", ten.house.shut(0), -1);
        CHECK.due("its trouble", ten.house.trouble(), 10);
        ten.house.team();
        CHECK.due("shortest", ten.house.shortest(0), -1);
        CHECK.due("its trouble", ten.house.trouble(), 10);
        Hand twenty = hand(20, false);
        CHECK.due("a million", twenty.house.states(0), -1);
        CHECK.due("its trouble", twenty.house.trouble(), 10);
        // Nine free ones are 512 states; each of a chain behind all of them is one more.
        Hand many = hand(10, false);
        many.rule(9, "solved 5");
        int atLeastFive = 0;
        for (int bits = 0; bits < 512; bits++) {
            atLeastFive += Integer.bitCount(bits) >= 5 ? 1 : 0;
        }
        CHECK.due("512 and 256", many.house.states(0), 512 + atLeastFive);
        many.rule(9, "solved 3");
        CHECK.due("512 and 466", many.house.states(0), 512 + 466);
        many.rule(9, "solved 2");
        CHECK.due("512 and 502: more than 1,000", many.house.states(0), -1);
        many.rule(9, "solved 3 or riddle 0 and riddle 1");
        CHECK.due("979", many.house.states(0), 979);
        // 978, and one more for each of a chain that only the full set opens: 22 make 1,000.
        Hand edge = hand(20, false);
        edge.rule(9, "solved 3 and not riddle 10");
        for (int r = 10; r < 20; r++) {
            edge.rule(r, r == 10 ? "solved 10" : "riddle " + (r - 1));
        }
        CHECK.due("988", edge.house.states(0), 988);
        Hand full = hand(20, false);
        full.rule(9, "solved 3 or riddle 0 and riddle 1 or riddle 0 and riddle 2");
        full.rule(10, "solved 10");
        for (int r = 11; r < 20; r++) {
            full.rule(r, "riddle " + (r - 1));
        }
        CHECK.due("980 and ten", full.house.states(0), 990);
        String pairs = "solved 3 or riddle 0 and (" + anyOf(1, 8) + ") or riddle 1 and (" + anyOf(2, 4) + ")";
        full.rule(9, pairs);
        CHECK.due("989 and ten", full.house.states(0), 999);
        full.rule(9, "solved 3 or riddle 0 and (" + anyOf(1, 8) + ") or riddle 1 and (" + anyOf(2, 5) + ")");
        CHECK.due("just 1,000", full.house.states(0), 1000);
        CHECK.due("not refused", full.house.trouble(), 0);
        full.rule(9, "solved 3 or riddle 0 and (" + anyOf(1, 8) + ") or riddle 1 and (" + anyOf(2, 6) + ")");
        CHECK.due("1,001", full.house.states(0), -1);
        CHECK.due("its trouble", full.house.trouble(), 10);
    }

    private static String anyOf(int from, int to) {
        StringBuilder text = new StringBuilder();
        for (int r = from; r <= to; r++) {
            text.append(r == from ? "" : " or ").append("riddle ").append(r);
        }
        return text.toString();
    }

    private static void shut() {
        Hand free = hand(2, true);
        CHECK.due("always open", free.house.shut(0), -2);
        CHECK.due("not refused", free.house.trouble(), 0);
        rules(free, "", "", "riddle 0 and riddle 1");
        CHECK.due("always a way", free.house.shut(0), -2);
        rules(free, "not riddle 1", "", "riddle 0");
        CHECK.due("1 shuts 0", free.house.shut(0), 2);
        rules(free, "", "", "not riddle 0");
        CHECK.due("0 shuts the last one, open at first", free.house.shut(0), 1);
        rules(free, "", "", "solved 3");
        CHECK.due("never", free.house.shut(0), 0);
        rules(free, "", "", "riddle 2");
        CHECK.due("only behind itself", free.house.shut(0), 0);
        rules(free, "riddle 2", "riddle 2", "not riddle 2");
        CHECK.due("a solved one is enough", free.house.shut(0), -2);
        rules(free, "", "", "minute 7");
        CHECK.due("at 6", free.house.shut(6), 0);
        CHECK.due("at 7", free.house.shut(7), -2);
        Hand only = hand(0, true);
        CHECK.due("the last one alone", only.house.shut(0), -2);
    }

    /** The first as they are met: smaller states first, then by the riddles that lead there. */
    private static void firstShut() {
        Hand hand = hand(4, true);
        rules(hand, "", "", "", "", "not (riddle 2 and riddle 3) and not (riddle 0 and riddle 1)");
        CHECK.due("0 and 1 ahead of 2 and 3", hand.house.shut(0), 3);
        rules(hand, "", "", "", "", "not (riddle 1 and riddle 2) and not (riddle 0 and riddle 3)");
        CHECK.due("0 and 3 ahead of 1 and 2", hand.house.shut(0), 9);
        rules(hand, "", "", "", "", "not (riddle 0 and riddle 1) and not riddle 3");
        CHECK.due("3 alone is met first", hand.house.shut(0), 8);
        rules(hand, "riddle 3", "", "", "not riddle 1 and not riddle 2", "not (riddle 1 and riddle 2) and not (riddle 0 and riddle 1)");
        CHECK.due("1 and 2 ahead of 0, 1 and 3", hand.house.shut(0), 6);
    }

    private static void shortest() {
        Hand hand = hand(4, true);
        CHECK.due("none", hand.house.shortest(0), 0);
        CHECK.due("not refused", hand.house.trouble(), 0);
        rules(hand, "", "", "", "", "solved 4");
        CHECK.due("all", hand.house.shortest(0), 4);
        rules(hand, "", "", "", "", "solved 5");
        CHECK.due("it can't be", hand.house.shortest(0), -2);
        rules(hand, "", "riddle 0", "riddle 1", "riddle 2", "riddle 3 or riddle 2");
        CHECK.due("a chain", hand.house.shortest(0), 3);
        rules(hand, "", "riddle 0", "riddle 1", "", "riddle 2 or riddle 3 and riddle 0");
        CHECK.due("the shorter way", hand.house.shortest(0), 2);
        rules(hand, "minute 5", "", "", "", "riddle 0");
        CHECK.due("at 4", hand.house.shortest(4), -2);
        CHECK.due("at 5", hand.house.shortest(5), 1);
    }

    private static void dead() {
        Hand hand = hand(4, true);
        CHECK.due("none", hand.house.dead(0), 0);
        CHECK.due("not refused", hand.house.trouble(), 0);
        rules(hand, "", "riddle 1", "riddle 1", "solved 1", "solved 4");
        CHECK.due("1, 2 and the last", hand.house.dead(0), 2 + 4 + 16);
        rules(hand, "not riddle 0", "minute 9", "not solved 0", "round 0 9", "riddle 0");
        CHECK.due("at 8", hand.house.dead(8), 2 + 4 + 8);
        CHECK.due("at 9", hand.house.dead(9), 4 + 8);
        Hand twenty = hand(20, false);
        for (int r = 0; r < 20; r++) {
            twenty.rule(r, "riddle " + r);
        }
        CHECK.due("all twenty", twenty.house.dead(0), (1 << 20) - 1);
    }

    private static void teamsOfNoMatter() {
        Hand hand = hand(2, true);
        rules(hand, "", "minute 5", "riddle 1");
        hand.house.team();
        hand.guess(0, 0, "a");
        hand.house.pass(10);
        hand.guess(0, 1, "a");
        hand.guess(0, 2, "z");
        CHECK.due("states at 0", hand.house.states(0), 2);
        CHECK.due("shortest at 0", hand.house.shortest(0), -2);
        CHECK.due("shortest at 10", hand.house.shortest(10), 1);
        CHECK.due("a minute beyond the one there is", hand.house.states(9999), 6);
    }

    private static void refusals() {
        int[] wrong = {-1, 10000, Integer.MAX_VALUE, Integer.MIN_VALUE};
        Hand hand = hand(2, false);
        for (int minute : wrong) {
            int[] got = new int[8];
            got[0] = hand.house.states(minute);
            got[1] = hand.house.trouble();
            hand.house.team();
            got[2] = hand.house.shut(minute);
            got[3] = hand.house.trouble();
            hand.house.undo();
            hand.house.team();
            got[4] = hand.house.shortest(minute);
            got[5] = hand.house.trouble();
            hand.house.team();
            got[6] = hand.house.dead(minute);
            got[7] = hand.house.trouble();
            for (int k = 0; k < 8; k += 2) {
                CHECK.due("minute " + minute, got[k], -1);
                CHECK.due("its trouble", got[k + 1], 2);
            }
        }
        CHECK.due("no last one", hand.house.shut(0), -1);
        CHECK.due("its trouble", hand.house.trouble(), 9);
        CHECK.due("states", hand.house.states(0), 4);
        CHECK.due("no last one", hand.house.shortest(0), -1);
        CHECK.due("its trouble", hand.house.trouble(), 9);
        Hand many = hand(20, false);
        CHECK.due("no last one ahead of too many", many.house.shut(0), -1);
        CHECK.due("its trouble", many.house.trouble(), 9);
    }
}

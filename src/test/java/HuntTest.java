/** Promises 20 to 27: teams, minutes, guesses, hints, what is told of teams, ranks. */
public final class HuntTest {
    private static final Check CHECK = new Check("HuntTest");

    public static void main(String[] args) {
        teams();
        minutes();
        guesses();
        orderOfRefusals();
        locks();
        hints();
        teamOf();
        told();
        ranks();
        ranksOfOld();
        marksAndNumbers();
        CHECK.end();
    }

    /** Riddles 0 to 3 "a" to "d", 4 the last "e"; so many teams. */
    private static Hand hand(int teams) {
        Hand hand = new Hand();
        for (int r = 0; r < 5; r++) {
            hand.riddle(r == 4 ? 2 : 0, r, answer(r));
        }
        for (int t = 0; t < teams; t++) {
            hand.house.team();
        }
        return hand;
    }

    private static String answer(int riddle) {
        return String.valueOf((char) ('a' + riddle));
    }

    private static void solve(Hand hand, int team, int riddle) {
        CHECK.due("team " + team + " solves " + riddle, hand.guess(team, riddle, answer(riddle)), 1);
    }

    private static void teams() {
        HuntHouse house = new HuntHouse();
        for (int t = 0; t < 8; t++) {
            CHECK.due("team " + t, house.team(), t);
            CHECK.due("accepted", house.trouble(), 0);
            house.pass(10);
        }
        CHECK.due("the ninth", house.team(), -1);
        CHECK.due("its trouble", house.trouble(), 3);
        CHECK.due("teams", house.count(1), 8);
        for (int t = 0; t < 8; t++) {
            CHECK.due("start of " + t, house.teamOf(t, 0), 10 * t);
        }
    }

    private static void minutes() {
        HuntHouse house = new HuntHouse();
        CHECK.due("one", house.pass(1), 1);
        CHECK.due("many", house.pass(1000), 1001);
        int[] wrong = {0, -1, 1001, Integer.MAX_VALUE, Integer.MIN_VALUE};
        for (int minutes : wrong) {
            house.team();
            CHECK.due("pass " + minutes, house.pass(minutes), -1);
            CHECK.due("its trouble", house.trouble(), 2);
        }
        for (int k = 2; k <= 9; k++) {
            house.pass(1000);
        }
        CHECK.due("minute", house.count(3), 9001);
        CHECK.due("beyond", house.pass(999), -1);
        CHECK.due("its trouble", house.trouble(), 2);
        CHECK.due("the last", house.pass(998), 9999);
        CHECK.due("accepted", house.trouble(), 0);
        CHECK.due("beyond", house.pass(1), -1);
        CHECK.due("minute", house.count(3), 9999);
    }

    private static void guesses() {
        Hand hand = new Hand();
        hand.riddle(0, 0, "bird");
        hand.riddle(0, 0, "tree");
        hand.house.patience(0, 1, 0);
        hand.house.team();
        CHECK.due("wrong", hand.guess(0, 0, "tree"), 0);
        CHECK.due("near", hand.guess(0, 0, "birds"), 2);
        CHECK.due("not refused", hand.house.trouble(), 0);
        CHECK.due("nothing", hand.guess(0, 0, ""), 0);
        CHECK.due("guesses", hand.house.told(0, 0, 1), 3);
        CHECK.due("wrong ones", hand.house.teamOf(0, 5), 3);
        CHECK.due("right", hand.guess(0, 0, "B i R d"), 1);
        CHECK.due("tape is empty", hand.house.count(5), 0);
        CHECK.due("guesses", hand.house.told(0, 0, 1), 4);
        CHECK.due("wrong ones", hand.house.teamOf(0, 5), 3);
        CHECK.due("solved", hand.house.teamOf(0, 6), 1);
        CHECK.due("again", hand.guess(0, 0, "bird"), -1);
        CHECK.due("its trouble", hand.house.trouble(), 6);
        CHECK.due("its tape", hand.house.count(5), 0);
        CHECK.due("guesses", hand.house.told(0, 0, 1), 4);
        hand.form(1, "oak/elm");
        CHECK.due("by its form", hand.guess(0, 1, "elm"), 1);
        hand.feed("bird");
        int[][] none = {{1, 0}, {-1, 0}, {0, 2}, {0, -1}, {8, 20}};
        for (int[] call : none) {
            hand.house.states(0);
            CHECK.due("none such", hand.house.guess(call[0], call[1], 99), -1);
            CHECK.due("its trouble", hand.house.trouble(), 1);
            CHECK.due("tape stays", hand.house.count(5), 20);
        }
        int[] wrong = {-1, 21, Integer.MAX_VALUE, Integer.MIN_VALUE};
        for (int n : wrong) {
            hand.house.states(0);
            CHECK.due("n " + n, hand.house.guess(0, 0, n), -1);
            CHECK.due("its trouble", hand.house.trouble(), 2);
            CHECK.due("tape stays", hand.house.count(5), 20);
        }
    }

    private static void orderOfRefusals() {
        Hand hand = hand(1);
        hand.rule(1, "riddle 0");
        CHECK.due("not open", hand.guess(0, 1, "b"), -1);
        CHECK.due("its trouble", hand.house.trouble(), 5);
        CHECK.due("its tape", hand.house.count(5), 0);
        CHECK.due("no guess", hand.house.told(0, 1, 1), 0);
        hand.rule(0, "not riddle 0");
        solve(hand, 0, 0);
        CHECK.due("solved and not open", hand.guess(0, 0, "a"), -1);
        CHECK.due("not open comes first", hand.house.trouble(), 5);
        CHECK.due("solved and not open", hand.house.buy(0, 0), -1);
        CHECK.due("not open comes first", hand.house.trouble(), 5);
        hand.house.patience(1, 0, 5);
        hand.guess(0, 1, "x");
        hand.rule(1, "solved 5");
        CHECK.due("waits and is not open", hand.guess(0, 1, "b"), -1);
        CHECK.due("not open comes first", hand.house.trouble(), 5);
        hand.rule(1, "solved 1");
        CHECK.due("waits", hand.guess(0, 1, "b"), -1);
        CHECK.due("its trouble", hand.house.trouble(), 7);
        CHECK.due("its tape", hand.house.count(5), 0);
        hand.house.pass(5);
        solve(hand, 0, 1);
        CHECK.due("solved, no hint", hand.house.buy(0, 1), -1);
        CHECK.due("solved comes first", hand.house.trouble(), 6);
    }

    private static void locks() {
        Hand hand = hand(2);
        hand.house.patience(0, 0, 60);
        hand.house.pass(7);
        CHECK.due("at first", hand.house.told(0, 0, 3), 0);
        CHECK.due("wrong", hand.guess(0, 0, "x"), 0);
        CHECK.due("waits to", hand.house.told(0, 0, 3), 67);
        CHECK.due("the other team doesn't", hand.house.told(1, 0, 3), 0);
        CHECK.due("another riddle doesn't", hand.guess(0, 1, "x"), 0);
        CHECK.due("without a lock from now on", hand.house.told(0, 1, 3), 7);
        CHECK.due("a right one leaves it", hand.guess(0, 1, "b") * 100 + hand.house.told(0, 1, 3), 107);
        hand.house.pass(59);
        CHECK.due("a minute too soon", hand.guess(0, 0, "a"), -1);
        CHECK.due("its trouble", hand.house.trouble(), 7);
        CHECK.due("a refused one is none", hand.house.told(0, 0, 1), 1);
        hand.house.patience(0, 0, 0);
        CHECK.due("a lock set later changes no wait", hand.guess(0, 0, "a"), -1);
        hand.house.pass(1);
        CHECK.due("just then", hand.guess(0, 0, "a"), 1);
        CHECK.due("right ones don't wait", hand.house.told(0, 0, 3), 67);
        Hand near = new Hand();
        near.riddle(0, 0, "bird");
        near.house.patience(0, 3, 4);
        near.house.team();
        CHECK.due("near", near.guess(0, 0, "bi"), 2);
        CHECK.due("waits too", near.house.told(0, 0, 3), 4);
    }

    private static void hints() {
        Hand hand = hand(2);
        hand.rule(1, "riddle 0");
        CHECK.due("no hint", hand.house.buy(0, 0), -1);
        CHECK.due("its trouble", hand.house.trouble(), 8);
        hand.house.hint(0, 0, 7);
        hand.house.hint(0, 10, 20);
        hand.house.hint(0, 5, 100);
        hand.house.hint(1, 0, 1);
        CHECK.due("at once", hand.house.buy(0, 0), 0);
        CHECK.due("accepted", hand.house.trouble(), 0);
        CHECK.due("too soon", hand.house.buy(0, 0), -1);
        CHECK.due("its trouble", hand.house.trouble(), 8);
        hand.house.pass(9);
        CHECK.due("in order, though the third might be", hand.house.buy(0, 0), -1);
        hand.house.pass(1);
        CHECK.due("just then", hand.house.buy(0, 0), 1);
        CHECK.due("the third", hand.house.buy(0, 0), 2);
        CHECK.due("no more", hand.house.buy(0, 0), -1);
        CHECK.due("its trouble", hand.house.trouble(), 8);
        CHECK.due("prices", hand.house.teamOf(0, 4), 127);
        CHECK.due("bought", hand.house.told(0, 0, 2), 3);
        CHECK.due("the other team's", hand.house.told(1, 0, 2), 0);
        CHECK.due("not open", hand.house.buy(0, 1), -1);
        CHECK.due("its trouble", hand.house.trouble(), 5);
        solve(hand, 1, 2);
        CHECK.due("the first", hand.house.buy(1, 0), 0);
        CHECK.due("stuck anew behind a right guess", hand.house.buy(1, 0), -1);
        hand.guess(1, 3, "x");
        hand.house.pass(10);
        CHECK.due("a wrong one changes nothing", hand.house.buy(1, 0), 1);
        int[][] none = {{2, 0}, {-1, 0}, {0, 5}, {0, -1}};
        for (int[] call : none) {
            hand.house.states(0);
            CHECK.due("none such", hand.house.buy(call[0], call[1]), -1);
            CHECK.due("its trouble", hand.house.trouble(), 1);
        }
    }

    private static void teamOf() {
        Hand hand = hand(0);
        hand.house.hint(3, 0, 50);
        hand.house.pass(100);
        hand.house.team();
        hand.house.pass(20);
        int[] fresh = {100, 0, 100, 20, 0, 0, 0};
        for (int what = 0; what < 7; what++) {
            CHECK.due("fresh team's " + what, hand.house.teamOf(0, what), fresh[what]);
        }
        solve(hand, 0, 2);
        hand.house.pass(5);
        hand.guess(0, 0, "x");
        hand.house.buy(0, 3);
        solve(hand, 0, 4);
        hand.house.pass(3);
        int[] later = {100, 2, 175, 3, 50, 1, 20};
        for (int what = 0; what < 7; what++) {
            CHECK.due("later team's " + what, hand.house.teamOf(0, what), later[what]);
        }
        hand.house.pass(0);
        int[][] none = {{0, 7}, {0, -1}, {1, 0}, {-1, 0}, {8, 0}, {0, Integer.MAX_VALUE}};
        for (int[] call : none) {
            CHECK.due("none such", hand.house.teamOf(call[0], call[1]), -1);
        }
        CHECK.due("not of trouble", hand.house.trouble(), 2);
    }

    private static void told() {
        Hand hand = hand(1);
        hand.house.hint(0, 0, 5);
        hand.house.pass(4);
        CHECK.due("not solved", hand.house.told(0, 0, 0), -1);
        hand.house.buy(0, 0);
        hand.guess(0, 0, "x");
        solve(hand, 0, 0);
        hand.house.pass(4);
        int[] want = {4, 2, 1, 4};
        for (int what = 0; what < 4; what++) {
            CHECK.due("told " + what, hand.house.told(0, 0, what), want[what]);
        }
        int[] other = {-1, 0, 0, 0};
        for (int what = 0; what < 4; what++) {
            CHECK.due("told of another " + what, hand.house.told(0, 1, what), other[what]);
        }
        hand.house.pass(0);
        int[][] none = {{0, 0, 4}, {0, 0, -1}, {1, 0, 1}, {-1, 0, 1}, {0, 5, 1}, {0, -1, 1}};
        for (int[] call : none) {
            CHECK.due("none such", hand.house.told(call[0], call[1], call[2]), -1);
        }
        CHECK.due("not of trouble", hand.house.trouble(), 2);
    }

    private static void rank(Hand hand, int minute, int... teams) {
        for (int i = 0; i < teams.length; i++) {
            CHECK.due("rank " + i + " at " + minute, hand.house.rank(i, minute), teams[i]);
        }
        CHECK.due("no more ranks at " + minute, hand.house.rank(teams.length, minute), -1);
        CHECK.due("none below the first", hand.house.rank(-1, minute), -1);
    }

    private static void ranks() {
        Hand hand = hand(4);
        rank(hand, 0, 0, 1, 2, 3);
        solve(hand, 3, 0);
        rank(hand, 0, 3, 0, 1, 2);
        hand.house.pass(10);
        solve(hand, 1, 0);
        solve(hand, 1, 1);
        rank(hand, 10, 1, 3, 0, 2);
        hand.house.pass(10);
        solve(hand, 2, 4);
        rank(hand, 20, 2, 1, 3, 0);
        solve(hand, 0, 0);
        rank(hand, 20, 2, 1, 3, 0);
        rank(hand, 19, 1, 3, 0, 2);
        rank(hand, 9, 3, 0, 1, 2);
        CHECK.due("beyond the minute", hand.house.rank(0, 21), -1);
        CHECK.due("below the first minute", hand.house.rank(0, -1), -1);
        CHECK.due("at no minute", hand.house.rank(0, Integer.MIN_VALUE), -1);
        CHECK.due("at no rank", hand.house.rank(Integer.MAX_VALUE, 0), -1);
        hand.house.states(-1);
        hand.house.rank(0, 99);
        CHECK.due("not of trouble", hand.house.trouble(), 2);
    }

    private static void ranksOfOld() {
        Hand hand = hand(1);
        hand.house.hint(3, 0, 30);
        hand.house.hint(3, 0, 40);
        hand.house.pass(5);
        hand.house.team();
        hand.house.pass(5);
        hand.house.team();
        rank(hand, 4, 0);
        rank(hand, 5, 0, 1);
        rank(hand, 10, 0, 1, 2);
        hand.house.buy(0, 3);
        rank(hand, 9, 0, 1);
        rank(hand, 10, 1, 2, 0);
        hand.house.pass(10);
        solve(hand, 0, 0);
        hand.house.pass(10);
        solve(hand, 1, 0);
        CHECK.due("mark of 0: 20 and 30", hand.house.teamOf(0, 2), 50);
        CHECK.due("mark of 1", hand.house.teamOf(1, 2), 30);
        rank(hand, 30, 1, 0, 2);
        rank(hand, 29, 0, 1, 2);
        hand.house.pass(10);
        hand.house.buy(1, 3);
        CHECK.due("a price paid behind the latest right guess counts", hand.house.teamOf(1, 2), 60);
        rank(hand, 39, 1, 0, 2);
        rank(hand, 40, 0, 1, 2);
        hand.house.buy(1, 3);
        CHECK.due("both prices", hand.house.teamOf(1, 4), 70);
        solve(hand, 2, 4);
        rank(hand, 40, 2, 0, 1);
        rank(hand, 20, 0, 1, 2);
        rank(hand, 19, 1, 2, 0);
    }

    private static void marksAndNumbers() {
        Hand hand = hand(3);
        hand.house.hint(3, 0, 5);
        hand.house.buy(2, 3);
        hand.house.pass(5);
        solve(hand, 1, 0);
        hand.house.pass(5);
        solve(hand, 0, 0);
        solve(hand, 2, 0);
        rank(hand, 10, 1, 0, 2);
        hand.house.buy(0, 3);
        rank(hand, 10, 1, 0, 2);
        hand.house.buy(1, 3);
        CHECK.due("as early, but dearer", hand.house.teamOf(1, 2), 10);
        rank(hand, 10, 1, 0, 2);
        Hand even = hand(8);
        rank(even, 0, 0, 1, 2, 3, 4, 5, 6, 7);
        for (int t = 7; t >= 0; t--) {
            solve(even, t, 0);
        }
        rank(even, 0, 0, 1, 2, 3, 4, 5, 6, 7);
        Hand plain = new Hand();
        plain.riddle(0, 0, "a");
        plain.riddle(0, 0, "b");
        plain.house.team();
        plain.house.team();
        plain.guess(1, 1, "b");
        rank(plain, 0, 1, 0);
    }
}

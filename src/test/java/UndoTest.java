/** Promises 32 to 34: acts taken back, counts, trouble. */
public final class UndoTest {
    private static final Check CHECK = new Check("UndoTest");

    public static void main(String[] args) {
        house();
        texts();
        hunt();
        hundred();
        hundredInOrder();
        hundredTexts();
        waits();
        noActs();
        counts();
        trouble();
        CHECK.end();
    }

    private static void house() {
        Hand hand = new Hand();
        HuntHouse house = hand.house;
        hand.riddle(2, 3, "bird");
        house.patience(0, 1, 2);
        house.patience(0, 3, 60);
        house.hint(0, 1, 1);
        house.hint(0, 2, 2);
        hand.book("word");
        hand.book("words");
        CHECK.due("acts", house.count(4), 7);
        CHECK.due("undo", house.undo(), 1);
        CHECK.due("book", house.count(2), 1);
        house.undo();
        CHECK.due("book", house.count(2), 0);
        house.undo();
        CHECK.due("hints", house.about(0, 5), 1);
        CHECK.due("another hint", house.hint(0, 0, 50), 2);
        house.undo();
        house.undo();
        CHECK.due("hints", house.about(0, 5), 0);
        house.undo();
        CHECK.due("slack", house.about(0, 3), 1);
        CHECK.due("lock", house.about(0, 4), 2);
        house.undo();
        CHECK.due("slack", house.about(0, 3), 0);
        CHECK.due("lock", house.about(0, 4), 0);
        CHECK.due("acts", house.count(4), 1);
        house.undo();
        CHECK.due("riddles", house.count(0), 0);
        CHECK.due("acts", house.count(4), 0);
        CHECK.due("none", house.undo(), 0);
        CHECK.due("a last one may come again", hand.riddle(2, 1, "tree"), 0);
        CHECK.due("its round", house.about(0, 1), 1);
    }

    private static void texts() {
        Hand hand = new Hand();
        HuntHouse house = hand.house;
        hand.riddle(0, 1, "bird");
        hand.riddle(1, 0, "tree");
        hand.rule(1, "riddle 0");
        hand.form(1, "oak");
        hand.working(1, "all 0");
        hand.rule(1, "solved 0");
        hand.form(1, "elm");
        hand.working(1, "all 0; back");
        house.undo();
        CHECK.due("the former working", house.make(1), 4);
        CHECK.due("it is bird", house.out(0), 'b');
        house.undo();
        CHECK.due("the former form", hand.takes(1, "oak") * 10 + hand.takes(1, "elm"), 10);
        house.undo();
        CHECK.due("the former rule", house.dead(0) * 100 + house.states(0), 3);
        hand.rule(1, "solved 9");
        house.undo();
        house.undo();
        CHECK.due("no working", house.about(1, 8), 0);
        CHECK.due("no working to make by", house.make(1), -1);
        house.undo();
        CHECK.due("no form", house.about(1, 7), 0);
        CHECK.due("the answer again", hand.takes(1, "tree"), 1);
        house.undo();
        CHECK.due("no rule", house.about(1, 6), 0);
        CHECK.due("always open", house.states(0), 4);
        house.undo();
        house.undo();
        CHECK.due("a riddle that comes in place of one", hand.riddle(1, 2, "cow"), 0);
        CHECK.due("has nothing of it", house.about(0, 6) + house.about(0, 7) + house.about(0, 8), 0);
        hand.riddle(0, 0, "a");
        hand.rule(1, "round 1 1");
        CHECK.due("nor is its round kept", house.dead(0), 2);
    }

    private static void hunt() {
        Hand hand = new Hand();
        HuntHouse house = hand.house;
        hand.riddle(0, 0, "bird");
        hand.riddle(0, 0, "tree");
        house.hint(1, 0, 9);
        house.patience(0, 0, 5);
        house.team();
        house.pass(10);
        hand.guess(0, 0, "x");
        house.pass(5);
        house.buy(0, 1);
        hand.guess(0, 0, "bird");
        hand.guess(0, 1, "x");
        house.undo();
        CHECK.due("guesses", house.told(0, 1, 1), 0);
        CHECK.due("wrong ones", house.teamOf(0, 5), 1);
        CHECK.due("no wait", house.told(0, 1, 3), 0);
        CHECK.due("solved", house.teamOf(0, 6), 1);
        house.undo();
        CHECK.due("not solved", house.told(0, 0, 0), -1);
        CHECK.due("none solved", house.teamOf(0, 1), 0);
        CHECK.due("the wait before", house.told(0, 0, 3), 15);
        CHECK.due("guesses", house.told(0, 0, 1), 1);
        CHECK.due("stuck", house.teamOf(0, 3), 15);
        CHECK.due("prices", house.teamOf(0, 4), 9);
        house.undo();
        CHECK.due("prices", house.teamOf(0, 4), 0);
        CHECK.due("bought", house.told(0, 1, 2), 0);
        house.undo();
        CHECK.due("minute", house.count(3), 10);
        CHECK.due("a minute that isn't any more", house.rank(0, 15), -1);
        CHECK.due("waits again", hand.guess(0, 0, "bird"), -1);
        house.undo();
        CHECK.due("no guess", house.told(0, 0, 1) + house.teamOf(0, 5) + house.told(0, 0, 3), 0);
        CHECK.due("the guess again", hand.guess(0, 0, "bird"), 1);
        house.undo();
        house.undo();
        CHECK.due("minute", house.count(3), 0);
        house.undo();
        CHECK.due("no team", house.count(1), 0);
        CHECK.due("none", house.teamOf(0, 0), -1);
        house.pass(3);
        house.team();
        CHECK.due("a new start", house.teamOf(0, 0), 3);
    }

    private static void hundred() {
        HuntHouse house = new HuntHouse();
        for (int k = 1; k <= 150; k++) {
            house.pass(1);
            CHECK.due("acts", house.count(4), Math.min(k, 100));
        }
        for (int k = 1; k <= 10; k++) {
            CHECK.due("undo", house.undo(), 1);
        }
        CHECK.due("acts", house.count(4), 90);
        house.pass(100);
        CHECK.due("acts", house.count(4), 91);
        for (int k = 1; k <= 91; k++) {
            CHECK.due("undo", house.undo(), 1);
        }
        CHECK.due("no more", house.undo(), 0);
        CHECK.due("what was ahead of the hundred stays", house.count(3), 50);
    }

    /** Acts told apart by their minutes, round the place where the oldest give way. */
    private static void hundredInOrder() {
        HuntHouse house = new HuntHouse();
        int[] minutes = new int[261];
        for (int k = 1; k <= 260; k++) {
            minutes[k] = house.pass(1 + k % 9);
        }
        for (int k = 259; k >= 160; k--) {
            CHECK.due("undo " + k, house.undo(), 1);
            CHECK.due("minute " + k, house.count(3), minutes[k]);
        }
        CHECK.due("no more", house.undo(), 0);
    }

    /** Texts in every place of the hundred. */
    private static void hundredTexts() {
        Hand hand = new Hand();
        hand.riddle(0, 0, "bird");
        for (int k = 0; k < 150; k++) {
            CHECK.due("form " + k, hand.form(0, "" + (char) ('a' + k % 26)), true);
        }
        for (int k = 148; k >= 50; k--) {
            CHECK.due("undo " + k, hand.house.undo(), 1);
            if (k % 2 == 0) {
                CHECK.due("the former form " + k, hand.takes(0, "" + (char) ('a' + k % 26)), 1);
            }
        }
        CHECK.due("the last of a hundred", hand.house.undo(), 1);
        CHECK.due("no more", hand.house.undo(), 0);
    }

    private static void waits() {
        Hand hand = new Hand();
        hand.riddle(0, 0, "bird");
        hand.house.patience(0, 0, 3);
        hand.house.team();
        hand.house.pass(4);
        hand.guess(0, 0, "x");
        hand.house.pass(20);
        hand.guess(0, 0, "x");
        CHECK.due("waits to", hand.house.told(0, 0, 3), 27);
        hand.house.undo();
        CHECK.due("waited to before", hand.house.told(0, 0, 3), 7);
        CHECK.due("wrong ones", hand.house.teamOf(0, 5), 1);
    }

    private static void noActs() {
        Hand hand = new Hand();
        HuntHouse house = hand.house;
        hand.riddle(1, 0, "bird");
        hand.riddle(1, 0, "tree");
        house.team();
        hand.working(1, "all 0");
        int acts = house.count(4);
        hand.takes(0, "bird");
        hand.steps(0, "bird");
        house.make(1);
        house.fits(1);
        house.without(1, 1);
        house.follows(1, 1);
        house.open(0, 0);
        house.states(0);
        house.dead(0);
        house.rank(0, 0);
        house.shut(0);
        house.about(0, 0);
        hand.rule(0, "riddle 7");
        hand.form(0, "/");
        hand.working(1, "cut");
        house.patience(0, 4, 4);
        house.hint(0, -1, 0);
        hand.book("A");
        house.pass(0);
        hand.riddle(0, 0, "");
        hand.guess(0, 2, "bird");
        house.buy(0, 0);
        hand.feed("x");
        CHECK.due("what is refused, or looks only, is no act", house.count(4), acts);
        house.undo();
        CHECK.due("the tape stays", house.count(5) > 0, true);
        CHECK.due("the working is taken back", house.about(1, 8), 0);
        CHECK.due("OUT is not", house.count(6), 4);
        int[] all = new int[1];
        hand.takes(0, "");
        all[0] = house.count(4);
        house.patience(0, 0, 0);
        CHECK.due("an act that changes nothing is one", house.count(4), all[0] + 1);
    }

    private static void counts() {
        Hand hand = new Hand();
        HuntHouse house = hand.house;
        hand.riddle(0, 0, "bird");
        hand.riddle(1, 0, "bird");
        hand.riddle(0, 0, "bird");
        house.team();
        house.team();
        hand.book("a");
        hand.working(1, "all 0");
        house.make(1);
        house.pass(77);
        hand.feed("x");
        int[] want = {3, 2, 1, 77, 8, 20, 4};
        for (int what = 0; what < 7; what++) {
            CHECK.due("count " + what, house.count(what), want[what]);
        }
        int[] none = {7, -1, Integer.MAX_VALUE, Integer.MIN_VALUE};
        for (int what : none) {
            CHECK.due("count " + what, house.count(what), -1);
        }
    }

    private static void trouble() {
        HuntHouse house = new HuntHouse();
        house.pass(0);
        house.count(99);
        house.undo();
        house.fault();
        house.where();
        house.feed(0, 0, 0, 0, 0);
        house.teamOf(0, 0);
        house.told(0, 0, 0);
        house.about(0, 0);
        house.rank(0, 0);
        CHECK.due("stays with the latest that may be refused", house.trouble(), 2);
        CHECK.due("and when asked again", house.trouble(), 2);
        house.pass(1);
        CHECK.due("accepted", house.trouble(), 0);
        house.open(0, 0);
        CHECK.due("none such", house.trouble(), 1);
        house.states(0);
        CHECK.due("accepted", house.trouble(), 0);
        acceptedBehindRefused();
    }

    /** Each call that may be refused and isn't, right behind one that was. */
    private static void acceptedBehindRefused() {
        Hand hand = new Hand();
        hand.riddle(0, 0, "bird");
        hand.riddle(2, 0, "bird");
        hand.house.team();
        hand.house.hint(0, 0, 0);
        hand.working(1, "all 0");
        for (int call = 0; call < 22; call++) {
            hand.house.pass(0);
            CHECK.due("refused", hand.house.trouble(), 2);
            hand.feed("solved 1");
            accepted(hand.house, call);
            CHECK.due("call " + call + " accepted", hand.house.trouble(), 0);
            hand.house.takes(0, 0);
        }
    }

    private static void accepted(HuntHouse house, int call) {
        switch (call) {
            case 0 -> house.riddle(0, 0, 6);
            case 1 -> house.rule(1, 8);
            case 2 -> house.form(0, 6);
            case 3 -> {
                house.takes(0, 0);
                house.pass(0);
                house.feed(0x6261636b, 0x20202020, 0x20202020, 0x20202020, 0x20202020);
                house.working(1, 4);
            }
            case 4 -> house.patience(0, 0, 0);
            case 5 -> house.hint(0, 0, 0);
            case 6 -> house.takes(0, 0);
            case 7 -> house.steps(0, 0);
            case 8 -> house.make(1);
            case 9 -> house.fits(1);
            case 10 -> house.without(1, 1);
            case 11 -> house.follows(1, 1);
            case 12 -> house.book(6);
            case 13 -> house.team();
            case 14 -> house.pass(1);
            case 15 -> house.open(0, 0);
            case 16 -> house.buy(0, 0);
            case 17 -> house.guess(0, 0, 6);
            case 18 -> house.states(0);
            case 19 -> house.shut(0);
            case 20 -> house.shortest(0);
            default -> house.dead(0);
        }
    }
}

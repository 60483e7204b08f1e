import java.util.NoSuchElementException;

/** Promises 1 to 34: each sentence of theirs that names an edge or a refusal. */
public final class SentencesOfPromisesTest {
    private static final Check CHECK = new Check("SentencesOfPromisesTest");
    private static final int[] NO_N = {-1, 21, 300, 301, Integer.MAX_VALUE, Integer.MIN_VALUE};

    public static void main(String[] args) {
        none();
        firstBytes();
        moreOrLessThanThereAre();
        newObject();
        tape();
        texts();
        numbersOfRiddles();
        told();
        guesses();
        workings();
        out();
        book();
        hunt();
        toldOfTeams();
        ranks();
        states();
        undo();
        count();
        CHECK.end();
    }

    private static void promise(int number, String words) {
        CHECK.sentence("Promise " + number + ":", words);
    }

    /** 0 bird (plain), 1 ab (made), 2 cat (the last one); two teams. */
    private static Hand hand() {
        Hand hand = new Hand();
        hand.riddle(0, 0, "bird");
        hand.riddle(1, 1, "ab");
        hand.riddle(2, 2, "cat");
        hand.house.team();
        hand.house.team();
        return hand;
    }

    /** Sets TROUBLE to 1, so that another number must come from the call behind. */
    private static HuntHouse troubled(Hand hand) {
        hand.house.open(-1, -1);
        CHECK.due("trouble before", hand.house.trouble(), 1);
        return hand.house;
    }

    private static void none() {
        CHECK.sentence("The constants:", "`NONE = -1`: There is none; refused.");
        CHECK.due("NONE", HuntHouse.NONE, -1);
        CHECK.due("there is none", new HuntHouse().about(0, 0), HuntHouse.NONE);
        CHECK.due("refused", new HuntHouse().pass(0), HuntHouse.NONE);
    }

    /** The calls that take n bytes; whether one was refused by 2. */
    private static boolean refusesN(HuntHouse house, int call, int n) {
        switch (call) {
            case 0 -> house.riddle(0, 0, n);
            case 1 -> house.rule(2, n);
            case 2 -> house.form(2, n);
            case 3 -> house.working(2, n);
            case 4 -> house.takes(2, n);
            case 5 -> house.steps(2, n);
            case 6 -> house.book(n);
            default -> house.guess(0, 2, n);
        }
        return house.trouble() == 2;
    }

    private static void firstBytes() {
        CHECK.sentence("The constants:", "(n: the first n bytes of THE TAPE, which is empty then");
        for (int call = 0; call < 8; call++) {
            int[] taken = {0, 1, 4, 20, 21, 40};
            for (int n : taken) {
                Hand hand = hand();
                hand.feed("back" + " ".repeat(36));
                boolean isNoWord = (call == 0 || call == 6) && n == 0;
                CHECK.due("call " + call + " with n " + n, refusesN(hand.house, call, n), isNoWord);
                CHECK.due("the tape is empty then", hand.house.count(5), 0);
            }
        }
    }

    private static void moreOrLessThanThereAre() {
        CHECK.sentence("The constants:", "2, and it stays, if n is below 0 or more than there are)");
        int[] wrong = {-1, 41, 60, 300, 301, Integer.MAX_VALUE, Integer.MIN_VALUE};
        for (int call = 0; call < 8; call++) {
            Hand hand = hand();
            hand.feed("back" + " ".repeat(36));
            for (int n : wrong) {
                CHECK.due("call " + call + " with n " + n, refusesN(troubled(hand), call, n), true);
                CHECK.due("the tape stays", hand.house.count(5), 40);
            }
            HuntHouse empty = hand().house;
            CHECK.due("call " + call + " with 1 of none", refusesN(empty, call, 1), true);
        }
    }

    private static void newObject() {
        promise(1, "No RIDDLES, no TEAMS, no BOOK; MINUTE 0.");
        HuntHouse house = new HuntHouse();
        for (int what = 0; what <= 6; what++) {
            CHECK.due("count " + what, house.count(what), 0);
        }
        CHECK.due("no riddle", house.about(0, 0), -1);
        CHECK.due("no team", house.teamOf(0, 0), -1);
        CHECK.due("no rank", house.rank(0, 0), -1);
        CHECK.due("no act", house.undo(), 0);
        CHECK.due("no fault", house.fault() * 10 + house.trouble(), 0);
        CHECK.due("no place", house.where(), -1);
        CHECK.due("nothing is dead", house.dead(0), 0);
    }

    // ---- 2

    private static void tape() {
        highestFirst();
        tapeBehindTape();
        fullTape();
    }

    private static void highestFirst() {
        promise(2, "Twenty bytes come behind THE TAPE, of each number the highest first");
        Hand hand = hand();
        CHECK.due("feed", hand.house.feed(0x62202020, 0x20692020, 0x20207220, 0x20202064, 0x20202020), 20);
        CHECK.due("in order", hand.house.takes(0, 20), 1);
        int[] signs = {0x61000000, 0x00610000, 0x00006100, 0x00000061};
        for (int k = 0; k < 4; k++) {
            hand.house.feed(0x20202020, signs[k], 0, 0, 0);
            CHECK.due("not within " + (4 + k), hand.house.takes(1, 4 + k), 0);
            hand.house.feed(0x20202020, signs[k], 0x62000000, 0, 0);
            CHECK.due("within 9", hand.house.takes(1, 9), 1);
        }
        hand.house.feed(0xe1e2e3e4, -1, Integer.MIN_VALUE, Integer.MAX_VALUE, 0x80808080);
        CHECK.due("bytes beyond 127 are no letters", hand.house.steps(0, 20), 4);
    }

    private static void tapeBehindTape() {
        promise(2, "how many it has");
        Hand hand = hand();
        CHECK.due("the first twenty", hand.house.feed(0x20202020, 0x20202020, 0x20202020, 0x20202020, 0x20206269), 20);
        CHECK.due("the next come behind", hand.house.feed(0x72642020, 0, 0, 0, 0), 40);
        CHECK.due("over both", hand.house.takes(0, 22), 1);
        CHECK.due("it begins anew", hand.house.feed(0x62697264, 0, 0, 0, 0), 20);
        CHECK.due("with nothing of the former", hand.house.takes(0, 20), 1);
    }

    private static void fullTape() {
        promise(2, "NONE, and none comes, if there would be more than 300");
        Hand hand = new Hand();
        hand.riddle(0, 0, "bird");
        for (int k = 0; k < 15; k++) {
            hand.house.feed(0x20202020, 0x20202020, 0x20202020, 0x20202020, 0x20202020);
        }
        CHECK.due("more", hand.house.feed(0x62697264, 0x62697264, 0x62697264, 0x62697264, 0x62697264), -1);
        CHECK.due("it stays", hand.house.count(5), 300);
        CHECK.due("none came", hand.house.steps(0, 300), 4);
        CHECK.due("room again", hand.house.feed(0x62697264, 0, 0, 0, 0), 20);
    }

    // ---- 3 to 6, 9, 10

    private static void texts() {
        riddle();
        orderOfRiddle();
        tapeOfTexts();
        numbersOfTexts();
        plainWorking();
        inPlaceOfTheFormer();
        fault();
        faultBehindRefusals();
        where();
    }

    private static void riddle() {
        promise(3, "NONE: 2 (n, KIND, ROUND: THE TAPE stays; no WORD)");
        Hand hand = hand();
        hand.feed("word");
        for (int n : NO_N) {
            CHECK.refused("n " + n, troubled(hand), hand.house.riddle(0, 0, n), 2);
            CHECK.due("the tape stays", hand.house.count(5), 20);
        }
        CHECK.refused("a kind", troubled(hand), hand.house.riddle(3, 0, 4), 2);
        CHECK.refused("a round", troubled(hand), hand.house.riddle(0, 6, 4), 2);
        CHECK.due("the tape stays", hand.house.count(5), 20);
        CHECK.refused("no word", troubled(hand), hand.house.riddle(0, 0, 0), 2);
        CHECK.due("the tape is empty", hand.house.count(5), 0);
        CHECK.due("none came", hand.house.count(0), 3);
    }

    private static void orderOfRiddle() {
        promise(3, "9 (a second last one); 3.");
        Hand hand = hand();
        CHECK.refused("no word ahead of a second last one", troubled(hand), hand.riddle(2, 0, "CAT"), 2);
        CHECK.refused("a second last one", troubled(hand), hand.riddle(2, 0, "cat"), 9);
        CHECK.due("the tape is empty", hand.house.count(5), 0);
        for (int r = 3; r < 20; r++) {
            hand.riddle(0, 0, "word");
        }
        CHECK.refused("a second last one ahead of no room", troubled(hand), hand.riddle(2, 0, "cat"), 9);
        CHECK.refused("no room", troubled(hand), hand.riddle(1, 0, "cat"), 3);
        CHECK.due("the tape is empty", hand.house.count(5), 0);
        CHECK.refused("no word ahead of no room", troubled(hand), hand.riddle(1, 0, "c-t"), 2);
    }

    private static boolean read(HuntHouse house, int which, int riddle, int n) {
        return which == 0 ? house.rule(riddle, n) : which == 1 ? house.form(riddle, n) : house.working(riddle, n);
    }

    private static void tapeOfTexts() {
        for (int which = 0; which < 3; which++) {
            promise(4 + which, which == 2 ? "(THE TAPE stays); 2; 4." : "1 (THE TAPE stays); 2; 4.");
            Hand hand = hand();
            hand.feed("solved solved solved");
            CHECK.refused("no riddle, and no n", hand.house, read(hand.house, which, 3, 99), 1);
            CHECK.due("the tape stays", hand.house.count(5), 20);
            for (int n : NO_N) {
                CHECK.refused("n " + n, troubled(hand), read(hand.house, which, 2, n), 2);
                CHECK.due("the tape stays", hand.house.count(5), 20);
            }
            CHECK.refused("a fault", troubled(hand), read(hand.house, which, 2, 0), 4);
            CHECK.due("the tape is empty", hand.house.count(5), 0);
            CHECK.due("no text came", hand.house.about(2, 6 + which), 0);
        }
    }

    private static void numbersOfTexts() {
        String[] texts = {"solved 0", "cat", "back"};
        for (int which = 0; which < 3; which++) {
            promise(4 + which, "of a RIDDLE");
            Hand hand = hand();
            hand.feed(texts[which]);
            CHECK.due("read", read(troubled(hand), which, 2, texts[which].length()), true);
            CHECK.due("trouble", hand.house.trouble(), 0);
            CHECK.due("the tape is empty", hand.house.count(5), 0);
            CHECK.due("it has it", hand.house.about(2, 6 + which), 1);
            CHECK.due("another has none", hand.house.about(1, 6 + which), 0);
        }
    }

    private static void plainWorking() {
        promise(6, "false: 1, 9 (kind 0) (THE TAPE stays)");
        Hand hand = hand();
        hand.feed("back");
        CHECK.refused("no riddle", hand.house, hand.house.working(3, 4), 1);
        CHECK.refused("a plain one", troubled(hand), hand.house.working(0, 4), 9);
        CHECK.refused("a plain one, and no n", troubled(hand), hand.house.working(0, -1), 9);
        CHECK.due("the tape stays", hand.house.count(5), 20);
    }

    private static void inPlaceOfTheFormer() {
        promise(4, "(in place of the former one)");
        Hand hand = hand();
        hand.rule(0, "solved 1");
        CHECK.due("the first", hand.house.open(0, 0), 0);
        hand.rule(0, "solved 0");
        CHECK.due("the second", hand.house.open(0, 0), 1);
        hand.rule(0, "solved 1 and");
        CHECK.due("a faulty one leaves it", hand.house.open(0, 0), 1);
        hand.form(0, "one");
        hand.form(0, "two");
        CHECK.due("of forms too", hand.takes(0, "two") * 10 + hand.takes(0, "one"), 10);
        hand.working(1, "all 0");
        hand.working(1, "all 0; cut 2");
        CHECK.due("of workings too", hand.house.make(1), 2);
    }

    private static void fault() {
        promise(9, "0 without one");
        Hand hand = hand();
        CHECK.due("none yet", hand.house.fault(), 0);
        hand.rule(0, "riddle 9");
        CHECK.due("2", hand.house.fault(), 2);
        hand.form(0, "[a b c d e]");
        CHECK.due("4", hand.house.fault(), 4);
        hand.working(1, "cut 0");
        CHECK.due("3", hand.house.fault(), 3);
        hand.form(0, "");
        CHECK.due("1", hand.house.fault(), 1);
        hand.working(1, "back");
        CHECK.due("a text without one", hand.house.fault(), 0);
    }

    private static void faultBehindRefusals() {
        promise(9, "The FAULT of the latest rule(), form(), working() not refused by 1, 2, 9");
        Hand hand = hand();
        hand.rule(0, "riddle 9");
        hand.house.rule(9, 0);
        CHECK.due("behind 1", hand.house.fault(), 2);
        hand.house.form(0, 1);
        CHECK.due("behind 2", hand.house.fault(), 2);
        hand.house.working(0, 0);
        CHECK.due("behind 9", hand.house.fault(), 2);
        hand.house.team();
        hand.riddle(0, 0, "?");
        hand.book("?");
        hand.takes(0, "?");
        hand.house.undo();
        CHECK.due("behind other calls", hand.house.fault(), 2);
        hand.rule(0, "solved 0");
        hand.house.rule(9, 0);
        CHECK.due("none, behind 1", hand.house.fault(), 0);
    }

    private static void where() {
        promise(10, "The place of a FAULT, if the latest call that may be refused was by 4; NONE else.");
        Hand hand = hand();
        CHECK.due("at first", hand.house.where(), -1);
        hand.rule(0, "riddle 9");
        CHECK.due("behind a fault", hand.house.where(), 7);
        CHECK.due("asked again", hand.house.where(), 7);
        hand.feed("solved 0");
        hand.house.count(0);
        hand.house.about(0, 0);
        CHECK.due("behind calls that are never refused", hand.house.where(), 7);
        hand.house.rule(0, 99);
        CHECK.due("behind one refused by 2", hand.house.where(), -1);
        hand.rule(0, "$");
        CHECK.due("at the first byte", hand.house.where(), 0);
        hand.house.open(0, 0);
        CHECK.due("behind an accepted one", hand.house.where(), -1);
        CHECK.due("the fault is told still", hand.house.fault(), 1);
    }

    // ---- 7, 8

    private static void numbersOfRiddles() {
        patience();
        hint();
        orderOfHint();
    }

    private static void patience() {
        promise(7, "SLACK, LOCK of a RIDDLE: true; false: 1; 2.");
        Hand hand = hand();
        int[][] right = {{0, 0}, {3, 60}, {0, 60}, {3, 0}, {1, 30}};
        for (int[] one : right) {
            troubled(hand);
            CHECK.due("slack " + one[0] + ", lock " + one[1], hand.house.patience(1, one[0], one[1]), true);
            CHECK.due("trouble", hand.house.trouble(), 0);
            CHECK.due("slack", hand.house.about(1, 3), one[0]);
            CHECK.due("lock", hand.house.about(1, 4), one[1]);
        }
        int[][] wrong = {{-1, 30}, {4, 30}, {1, -1}, {1, 61}, {Integer.MAX_VALUE, 0}, {0, Integer.MIN_VALUE}};
        for (int[] one : wrong) {
            CHECK.refused("slack " + one[0] + ", lock " + one[1], troubled(hand),
                hand.house.patience(1, one[0], one[1]), 2);
            CHECK.due("they stay", hand.house.about(1, 3) * 100 + hand.house.about(1, 4), 130);
        }
        hand.house.pass(0);
        CHECK.refused("no riddle, and no numbers", hand.house, hand.house.patience(3, 4, 61), 1);
        CHECK.due("another's stay", hand.house.about(0, 3) + hand.house.about(0, 4), 0);
    }

    private static void hint() {
        promise(8, "from so many MINUTES (0 .. 999) on, for a PRICE (0 .. 999): how many");
        Hand hand = hand();
        CHECK.accepted("the least", troubled(hand), hand.house.hint(0, 0, 0), 1);
        CHECK.accepted("the most", troubled(hand), hand.house.hint(0, 999, 999), 2);
        int[][] wrong = {{-1, 0}, {1000, 0}, {0, -1}, {0, 1000}, {Integer.MIN_VALUE, 0}, {0, Integer.MAX_VALUE}};
        for (int[] one : wrong) {
            CHECK.refused("minutes " + one[0] + ", price " + one[1], troubled(hand),
                hand.house.hint(0, one[0], one[1]), 2);
        }
        CHECK.due("there are", hand.house.about(0, 5), 2);
        CHECK.accepted("the first", hand.house, hand.house.buy(0, 0), 0);
        CHECK.due("for nothing", hand.house.teamOf(0, 4), 0);
        hand.house.pass(999);
        CHECK.accepted("the second", hand.house, hand.house.buy(0, 0), 1);
        CHECK.due("for 999", hand.house.teamOf(0, 4), 999);
    }

    private static void orderOfHint() {
        promise(8, "NONE: 1; 2; 3.");
        Hand hand = hand();
        for (int k = 0; k < 3; k++) {
            hand.house.hint(0, 0, 0);
        }
        CHECK.refused("no room", troubled(hand), hand.house.hint(0, 0, 0), 3);
        CHECK.refused("a number ahead of no room", troubled(hand), hand.house.hint(0, 1000, 0), 2);
        hand.house.pass(0);
        CHECK.refused("no riddle ahead of a number", hand.house, hand.house.hint(3, 1000, 0), 1);
    }

    // ---- 11

    private static void told() {
        promise(11, "NONE.");
        Hand hand = hand();
        int[] want = {2, 2, 3, 0, 0, 0, 0, 0, 0};
        for (int what = 0; what <= 8; what++) {
            CHECK.due("about the last one " + what, hand.house.about(2, what), want[what]);
        }
        hand.house.patience(2, 3, 60);
        hand.house.hint(2, 0, 0);
        hand.rule(2, "solved 0");
        hand.form(2, "dog");
        hand.working(2, "back");
        int[] later = {2, 2, 3, 3, 60, 1, 1, 1, 1};
        for (int what = 0; what <= 8; what++) {
            CHECK.due("later " + what, hand.house.about(2, what), later[what]);
        }
        int[][] none = {{2, -1}, {2, 9}, {3, 0}, {-1, 0}, {19, 0}, {20, 0}, {2, Integer.MIN_VALUE}, {Integer.MAX_VALUE, 0}};
        for (int[] one : none) {
            CHECK.due("none", hand.house.about(one[0], one[1]), -1);
        }
    }

    // ---- 12, 13

    private static void guesses() {
        takes();
        steps();
    }

    private static void takes() {
        promise(12, "Whether the first n bytes of THE TAPE (it is empty then), as a GUESS, would be right"
            + " for a RIDDLE 1, near 2, else 0. NONE: 1 (THE TAPE stays); 2.");
        Hand hand = hand();
        hand.house.patience(0, 1, 0);
        hand.feed("bird");
        hand.house.pass(0);
        CHECK.refused("no riddle, and no n", hand.house, hand.house.takes(3, 99), 1);
        for (int n : NO_N) {
            CHECK.refused("n " + n, troubled(hand), hand.house.takes(0, n), 2);
        }
        CHECK.due("the tape stays", hand.house.count(5), 20);
        CHECK.accepted("near: three bytes", troubled(hand), hand.house.takes(0, 3), 2);
        CHECK.due("the tape is empty", hand.house.count(5), 0);
        CHECK.accepted("right", hand.house, hand.takes(0, "bird"), 1);
        CHECK.accepted("else", hand.house, hand.takes(0, "bi"), 0);
        CHECK.accepted("no bytes", hand.house, hand.takes(0, ""), 0);
        CHECK.due("no guess of a team", hand.house.told(0, 0, 1), 0);
        hand.rule(0, "not solved 0");
        CHECK.accepted("a riddle that isn't open", hand.house, hand.takes(0, "bird"), 1);
    }

    private static void steps() {
        promise(13, "are from the ANSWER. NONE: 1 (THE TAPE stays); 2.");
        Hand hand = hand();
        hand.form(0, "crow");
        hand.feed("birds");
        hand.house.pass(0);
        CHECK.refused("no riddle, and no n", hand.house, hand.house.steps(3, 99), 1);
        for (int n : NO_N) {
            CHECK.refused("n " + n, troubled(hand), hand.house.steps(0, n), 2);
        }
        CHECK.due("the tape stays", hand.house.count(5), 20);
        CHECK.accepted("five bytes", troubled(hand), hand.house.steps(0, 5), 1);
        CHECK.due("the tape is empty", hand.house.count(5), 0);
        CHECK.accepted("no bytes", hand.house, hand.house.steps(0, 0), 4);
        CHECK.accepted("the answer, not the form", hand.house, hand.steps(0, "bird"), 0);
        CHECK.accepted("300 letters", hand.house, hand.steps(0, "x".repeat(300)), 300);
        CHECK.accepted("300 letters, four of them its", hand.house, hand.steps(0, "x".repeat(296) + "bird"), 296);
    }

    // ---- 14 to 17

    private static void workings() {
        make();
        fits();
        without();
        follows();
    }

    private static void make() {
        promise(14, "NONE, and OUT stays: 1; 9 (no WORKING, or BROKEN).");
        Hand hand = hand();
        hand.working(2, "all 0");
        CHECK.accepted("made", troubled(hand), hand.house.make(2), 4);
        hand.house.pass(0);
        CHECK.refused("no riddle", hand.house, hand.house.make(3), 1);
        CHECK.refused("no working", troubled(hand), hand.house.make(1), 9);
        CHECK.refused("a plain one", troubled(hand), hand.house.make(0), 9);
        hand.working(1, "take 1 of 0, 5 of 0");
        CHECK.refused("broken", troubled(hand), hand.house.make(1), 9);
        CHECK.due("OUT stays", hand.shown().equals("bird"), true);
        hand.working(1, "back");
        CHECK.accepted("no letters", hand.house, hand.house.make(1), 0);
        CHECK.due("OUT is empty", hand.house.count(6), 0);
    }

    private static void fits() {
        promise(15, "1, 0; NONE: 1; 9 (none; BROKEN is 0).");
        Hand hand = hand();
        hand.working(2, "all 0; cut 2; shift 1; back");
        CHECK.accepted("not its answer", troubled(hand), hand.house.fits(2), 0);
        hand.riddle(1, 0, "bir");
        String[] workings = {"all 0; cut 3", "all 0", "all 0; cut 2", "all 0; cut 3; back", "take 4 of 0, 2 of 0, 3 of 0",
            "take 1 of 0, 2 of 0, 4 of 0", "take 5 of 0", "back"};
        for (int k = 0; k < workings.length; k++) {
            hand.working(3, workings[k]);
            CHECK.accepted("'" + workings[k] + "'", troubled(hand), hand.house.fits(3), k == 0 ? 1 : 0);
        }
        hand.house.pass(0);
        CHECK.refused("no riddle", hand.house, hand.house.fits(4), 1);
        CHECK.refused("none", troubled(hand), hand.house.fits(1), 9);
        CHECK.refused("a plain one", troubled(hand), hand.house.fits(0), 9);
        CHECK.due("OUT stays", hand.house.count(6), 0);
    }

    private static void without() {
        promise(16, "with the RIDDLES of these bits not known (a ? is 63): how many letters. NONE: 1; 9.");
        Hand hand = hand();
        hand.working(2, "all 0; all 1");
        int[] bits = {0, 1, 2, 3, 4, -1, Integer.MIN_VALUE, Integer.MAX_VALUE, -2};
        String[] want = {"birdab", "????ab", "bird??", "??????", "birdab", "??????", "birdab", "??????", "bird??"};
        for (int k = 0; k < bits.length; k++) {
            CHECK.accepted("bits " + bits[k], troubled(hand), hand.house.without(2, bits[k]), 6);
            CHECK.due("'" + hand.shown() + "'", hand.shown().equals(want[k]), true);
        }
        hand.house.without(2, 1);
        CHECK.due("a ?", hand.house.out(0), 63);
        hand.house.pass(0);
        CHECK.refused("no riddle", hand.house, hand.house.without(3, 0), 1);
        CHECK.refused("no working", troubled(hand), hand.house.without(1, 0), 9);
        hand.working(1, "take 5 of 0");
        CHECK.refused("broken, though not known", troubled(hand), hand.house.without(1, 1), 9);
        CHECK.due("OUT stays", hand.shown().equals("????ab"), true);
        Hand twenty = new Hand();
        for (int r = 0; r < 20; r++) {
            twenty.riddle(r == 19 ? 2 : 0, 0, "a");
        }
        twenty.working(19, "all 18; all 0");
        twenty.house.without(19, 1 << 18);
        CHECK.due("the highest bit", twenty.shown().equals("?a"), true);
    }

    private static void follows() {
        promise(17, "NONE: 1; 9. (OUT stays.)");
        Hand hand = hand();
        hand.book("bird");
        hand.book("barb");
        hand.working(2, "all 0");
        CHECK.due("a row for OUT", hand.house.make(2), 4);
        CHECK.accepted("known", troubled(hand), hand.house.follows(2, 0), 1);
        CHECK.accepted("not known", troubled(hand), hand.house.follows(2, 1), 2);
        CHECK.accepted("others not known", troubled(hand), hand.house.follows(2, -2), 1);
        hand.house.pass(0);
        CHECK.refused("no riddle", hand.house, hand.house.follows(3, 0), 1);
        CHECK.refused("no working", troubled(hand), hand.house.follows(1, 0), 9);
        hand.working(2, "take 5 of 0");
        CHECK.refused("broken", troubled(hand), hand.house.follows(2, 0), 9);
        CHECK.due("OUT stays", hand.shown().equals("bird"), true);
        hand.working(2, "all 0");
        hand.house.undo();
        hand.house.undo();
        hand.house.undo();
        hand.house.undo();
        CHECK.accepted("of a working again", hand.house, hand.working(2, "all 0") ? hand.house.follows(2, 1) : -1, 1);
    }

    // ---- 18

    private static void out() {
        promise(18, "Byte i of OUT. NoSuchElementException if there is none such.");
        Hand hand = hand();
        CHECK.due("none at first", thrown(hand.house, 0), true);
        hand.working(2, "all 0; all 0; all 0; all 0; all 0; all 0");
        CHECK.due("24 letters", hand.house.make(2), 24);
        CHECK.due("the first", hand.house.out(0), 'b');
        CHECK.due("the 24th", hand.house.out(23), 'd');
        int[] none = {24, -1, 25, Integer.MAX_VALUE, Integer.MIN_VALUE};
        for (int i : none) {
            CHECK.due("byte " + i, thrown(hand.house, i), true);
        }
        hand.working(2, "all 0");
        hand.house.make(2);
        CHECK.due("the fourth", hand.house.out(3), 'd');
        CHECK.due("no fifth any more", thrown(hand.house, 4), true);
        hand.house.make(0);
        CHECK.due("out leaves trouble", thrown(hand.house, 4) && hand.house.trouble() == 9, true);
    }

    private static boolean thrown(HuntHouse house, int i) {
        try {
            house.out(i);
            return false;
        } catch (NoSuchElementException e) {
            return true;
        }
    }

    // ---- 19

    private static void book() {
        promise(19, "NONE: 2 (n: THE TAPE stays; no WORD); 3.");
        Hand hand = hand();
        hand.feed("word");
        for (int n : NO_N) {
            CHECK.refused("n " + n, troubled(hand), hand.house.book(n), 2);
            CHECK.due("the tape stays", hand.house.count(5), 20);
        }
        CHECK.refused("no word", troubled(hand), hand.house.book(0), 2);
        CHECK.due("the tape is empty", hand.house.count(5), 0);
        for (int w = 1; w <= 40; w++) {
            CHECK.accepted("word " + w, troubled(hand), hand.book("word"), w);
        }
        CHECK.refused("no room", troubled(hand), hand.book("word"), 3);
        CHECK.due("the tape is empty", hand.house.count(5), 0);
        CHECK.refused("no word ahead of no room", troubled(hand), hand.book("Word"), 2);
        hand.feed("word");
        CHECK.refused("no n ahead of no room", troubled(hand), hand.house.book(21), 2);
        CHECK.due("the tape stays", hand.house.count(5), 20);
    }

    // ---- 20 to 24

    private static void hunt() {
        team();
        pass();
        open();
        guess();
        orderOfGuess();
        buy();
    }

    private static void team() {
        promise(20, "its START is the MINUTE: its number. NONE: 3.");
        HuntHouse house = new HuntHouse();
        for (int t = 0; t < 8; t++) {
            house.open(-1, -1);
            CHECK.accepted("team " + t, house, house.team(), t);
            CHECK.due("its start", house.teamOf(t, 0), t * 1000);
            house.pass(1000);
        }
        CHECK.refused("the ninth", house, house.team(), 3);
        CHECK.due("there are", house.count(1), 8);
    }

    private static void pass() {
        promise(21, "So many minutes go (1 .. 1,000): the MINUTE. NONE: 2 (also beyond 9,999).");
        Hand hand = hand();
        CHECK.accepted("1", troubled(hand), hand.house.pass(1), 1);
        CHECK.accepted("1,000", troubled(hand), hand.house.pass(1000), 1001);
        int[] wrong = {0, -1, 1001, Integer.MAX_VALUE, Integer.MIN_VALUE};
        for (int minutes : wrong) {
            CHECK.refused("pass " + minutes, troubled(hand), hand.house.pass(minutes), 2);
        }
        for (int k = 0; k < 8; k++) {
            hand.house.pass(1000);
        }
        CHECK.refused("to 10,000", troubled(hand), hand.house.pass(999), 2);
        CHECK.refused("beyond all", troubled(hand), hand.house.pass(Integer.MAX_VALUE), 2);
        CHECK.due("it stays", hand.house.count(3), 9001);
        CHECK.accepted("to 9,999", troubled(hand), hand.house.pass(998), 9999);
        CHECK.refused("more", troubled(hand), hand.house.pass(1), 2);
    }

    private static void open() {
        promise(22, "Whether a RIDDLE is OPEN for a TEAM: 1, 0; NONE (1).");
        Hand hand = hand();
        hand.rule(1, "solved 1");
        CHECK.accepted("open", troubled(hand), hand.house.open(0, 0), 1);
        CHECK.accepted("not open", troubled(hand), hand.house.open(0, 1), 0);
        hand.guess(0, 0, "bird");
        CHECK.accepted("for that team", hand.house, hand.house.open(0, 1), 1);
        CHECK.accepted("not for the other", hand.house, hand.house.open(1, 1), 0);
        CHECK.accepted("a solved one is open still", hand.house, hand.house.open(0, 0), 1);
        int[][] none = {{2, 0}, {-1, 0}, {0, 3}, {0, -1}, {8, 20}};
        for (int[] one : none) {
            hand.house.pass(0);
            CHECK.refused("none", hand.house, hand.house.open(one[0], one[1]), 1);
        }
    }

    private static void guess() {
        promise(23, "the first n bytes of THE TAPE (it is empty then): 1 right, 2 near, 0 wrong."
            + " NONE: 1 (THE TAPE stays); 2 (likewise)");
        Hand hand = hand();
        hand.house.patience(0, 1, 0);
        hand.feed("birds");
        hand.house.pass(0);
        CHECK.refused("no team, and no n", hand.house, hand.house.guess(2, 0, 99), 1);
        hand.house.pass(0);
        CHECK.refused("no riddle, and no n", hand.house, hand.house.guess(0, 3, 99), 1);
        for (int n : NO_N) {
            CHECK.refused("n " + n, troubled(hand), hand.house.guess(0, 0, n), 2);
        }
        CHECK.due("the tape stays", hand.house.count(5), 20);
        CHECK.accepted("near", troubled(hand), hand.house.guess(0, 0, 5), 2);
        CHECK.due("the tape is empty", hand.house.count(5), 0);
        CHECK.accepted("wrong: no bytes", troubled(hand), hand.house.guess(0, 0, 0), 0);
        hand.feed("birds");
        CHECK.accepted("right: four bytes", troubled(hand), hand.house.guess(0, 0, 4), 1);
        CHECK.due("guesses", hand.house.told(0, 0, 1), 3);
        CHECK.due("of the other team", hand.house.told(1, 0, 1), 0);
    }

    private static void orderOfGuess() {
        promise(23, "5; 6; 7.");
        Hand hand = hand();
        hand.house.patience(1, 0, 9);
        hand.guess(0, 1, "x");
        CHECK.refused("waits", troubled(hand), hand.guess(0, 1, "ab"), 7);
        CHECK.due("the tape is empty", hand.house.count(5), 0);
        hand.rule(1, "riddle 0");
        CHECK.refused("isn't open, and waits", troubled(hand), hand.guess(0, 1, "ab"), 5);
        CHECK.due("the tape is empty", hand.house.count(5), 0);
        hand.rule(0, "not riddle 0");
        hand.guess(0, 0, "bird");
        CHECK.refused("isn't open, and is solved", troubled(hand), hand.guess(0, 0, "bird"), 5);
        hand.house.undo();
        hand.house.undo();
        hand.guess(0, 0, "bird");
        CHECK.refused("is solved", troubled(hand), hand.guess(0, 0, "bird"), 6);
        CHECK.due("the tape is empty", hand.house.count(5), 0);
        CHECK.refused("waits, and is open now", troubled(hand), hand.guess(0, 1, "ab"), 7);
        hand.feed("ab");
        CHECK.refused("no n ahead of all of these", troubled(hand), hand.house.guess(0, 0, 21), 2);
        CHECK.due("guesses", hand.house.told(0, 0, 1) * 10 + hand.house.told(0, 1, 1), 11);
    }

    private static void buy() {
        promise(24, "which (0 the first). NONE: 1; 5; 6; 8.");
        Hand hand = hand();
        hand.house.hint(0, 0, 1);
        hand.house.hint(0, 0, 1);
        CHECK.accepted("the first", troubled(hand), hand.house.buy(0, 0), 0);
        CHECK.accepted("the second", troubled(hand), hand.house.buy(0, 0), 1);
        CHECK.refused("no third", troubled(hand), hand.house.buy(0, 0), 8);
        CHECK.accepted("the other team's first", troubled(hand), hand.house.buy(1, 0), 0);
        hand.guess(0, 0, "bird");
        CHECK.refused("solved ahead of no hint", troubled(hand), hand.house.buy(0, 0), 6);
        hand.rule(0, "not riddle 0");
        CHECK.refused("not open ahead of solved", troubled(hand), hand.house.buy(0, 0), 5);
        hand.house.pass(0);
        CHECK.refused("no team", hand.house, hand.house.buy(2, 0), 1);
        hand.house.pass(0);
        CHECK.refused("no riddle", hand.house, hand.house.buy(0, 3), 1);
        CHECK.due("bought", hand.house.told(0, 0, 2) * 10 + hand.house.told(1, 0, 2), 21);
    }

    // ---- 25, 26

    private static void toldOfTeams() {
        teamOf();
        told26();
    }

    private static void teamOf() {
        promise(25, "5 wrong GUESSES, 6 those solved as bits; NONE.");
        Hand hand = hand();
        int[] want = {0, 0, 0, 0, 0, 0, 0};
        for (int what = 0; what <= 6; what++) {
            CHECK.due("of a new team " + what, hand.house.teamOf(1, what), want[what]);
        }
        hand.house.pass(5);
        hand.guess(1, 2, "cat");
        hand.guess(1, 0, "bird");
        hand.guess(1, 1, "x");
        CHECK.due("those solved", hand.house.teamOf(1, 6), 5);
        CHECK.due("how many", hand.house.teamOf(1, 1), 2);
        CHECK.due("wrong ones", hand.house.teamOf(1, 5), 1);
        int[][] none = {{0, -1}, {0, 7}, {2, 0}, {-1, 0}, {8, 0}, {0, Integer.MIN_VALUE}, {Integer.MAX_VALUE, 0}};
        for (int[] one : none) {
            CHECK.due("none", hand.house.teamOf(one[0], one[1]), -1);
        }
    }

    private static void told26() {
        promise(26, "the MINUTE in which it was solved (NONE), 1 GUESSES, 2 HINTS bought,"
            + " 3 from which MINUTE on it may be guessed (0 at first); NONE.");
        Hand hand = hand();
        int[] fresh = {-1, 0, 0, 0};
        for (int what = 0; what <= 3; what++) {
            CHECK.due("at first " + what, hand.house.told(0, 0, what), fresh[what]);
        }
        hand.house.patience(0, 0, 7);
        hand.house.hint(0, 0, 0);
        hand.house.pass(3);
        hand.house.buy(0, 0);
        hand.guess(0, 0, "x");
        int[] wrong = {-1, 1, 1, 10};
        for (int what = 0; what <= 3; what++) {
            CHECK.due("behind a wrong one " + what, hand.house.told(0, 0, what), wrong[what]);
        }
        hand.house.pass(7);
        hand.guess(0, 0, "bird");
        int[] right = {10, 2, 1, 10};
        for (int what = 0; what <= 3; what++) {
            CHECK.due("behind a right one " + what, hand.house.told(0, 0, what), right[what]);
        }
        Hand first = hand();
        first.guess(0, 0, "bird");
        CHECK.due("solved in minute 0", first.house.told(0, 0, 0), 0);
        int[][] none = {{0, 0, -1}, {0, 0, 4}, {2, 0, 0}, {-1, 0, 0}, {0, 3, 1}, {0, -1, 1}, {8, 20, 1}};
        for (int[] one : none) {
            CHECK.due("none", hand.house.told(one[0], one[1], one[2]), -1);
        }
    }

    // ---- 27

    private static void ranks() {
        promise(27, "(not beyond the one there is; of TEAMS whose START was up to it); NONE.");
        HuntHouse house = new HuntHouse();
        CHECK.due("no teams", house.rank(0, 0), -1);
        house.pass(10);
        house.team();
        house.pass(10);
        house.team();
        CHECK.due("ahead of all starts", house.rank(0, 9), -1);
        CHECK.due("at a start", house.rank(0, 10), 0);
        CHECK.due("none behind", house.rank(1, 10), -1);
        CHECK.due("a minute ahead of the second", house.rank(1, 19), -1);
        CHECK.due("at its start", house.rank(1, 20), 1);
        CHECK.due("none behind", house.rank(2, 20), -1);
        CHECK.due("beyond the minute", house.rank(0, 21), -1);
        int[] none = {-1, 2, 8, Integer.MAX_VALUE, Integer.MIN_VALUE};
        for (int i : none) {
            CHECK.due("rank " + i, house.rank(i, 20), -1);
        }
        int[] wrong = {-1, Integer.MAX_VALUE, Integer.MIN_VALUE};
        for (int minute : wrong) {
            CHECK.due("at " + minute, house.rank(0, minute), -1);
        }
    }

    // ---- 28 to 31

    private static void states() {
        minutesOfStates();
        shut();
        shortest();
        dead();
        orderOfStates();
    }

    private static void minutesOfStates() {
        promise(28, "How many STATES there are at a MINUTE (0 .. 9,999); NONE: 2; 10.");
        Hand hand = hand();
        CHECK.accepted("at 0", troubled(hand), hand.house.states(0), 8);
        CHECK.accepted("at 9,999", troubled(hand), hand.house.states(9999), 8);
        CHECK.accepted("shut at 9,999", troubled(hand), hand.house.shut(9999), -2);
        CHECK.accepted("shortest at 9,999", troubled(hand), hand.house.shortest(9999), 0);
        CHECK.accepted("dead at 9,999", troubled(hand), hand.house.dead(9999), 0);
        int[] wrong = {-1, 10000, Integer.MAX_VALUE, Integer.MIN_VALUE};
        for (int minute : wrong) {
            CHECK.refused("states at " + minute, troubled(hand), hand.house.states(minute), 2);
            CHECK.refused("shut at " + minute, troubled(hand), hand.house.shut(minute), 2);
            CHECK.refused("shortest at " + minute, troubled(hand), hand.house.shortest(minute), 2);
            CHECK.refused("dead at " + minute, troubled(hand), hand.house.dead(minute), 2);
        }
    }

    private static void shut() {
        promise(29, "The first STATE from which no way leads to one where the last RIDDLE is OPEN or solved:"
            + " its bits; -2 if there is none");
        Hand hand = hand();
        CHECK.accepted("none", troubled(hand), hand.house.shut(0), -2);
        hand.rule(2, "riddle 0");
        CHECK.accepted("a way from each", hand.house, hand.house.shut(0), -2);
        hand.rule(0, "not riddle 1");
        CHECK.accepted("1 alone", hand.house, hand.house.shut(0), 2);
        hand.rule(2, "solved 3");
        CHECK.accepted("the first of all", hand.house, hand.house.shut(0), 0);
        hand.rule(2, "not riddle 0 and not riddle 1");
        CHECK.accepted("open at first only", hand.house, hand.house.shut(0), 1);
        hand.rule(2, "not riddle 2");
        CHECK.accepted("a solved one is shut, but solved", hand.house, hand.house.shut(0), -2);
    }

    private static void shortest() {
        promise(30, "How many RIDDLES must be solved, at least, ahead of the last one; -2 if it can't be");
        Hand hand = hand();
        String[] rules = {"solved 0", "solved 1", "solved 2", "solved 3", "riddle 2", "riddle 0 and riddle 1 or riddle 1"};
        int[] want = {0, 1, 2, -2, -2, 1};
        for (int k = 0; k < rules.length; k++) {
            hand.rule(2, rules[k]);
            CHECK.accepted("'" + rules[k] + "'", troubled(hand), hand.house.shortest(0), want[k]);
        }
        Hand alone = new Hand();
        alone.riddle(2, 0, "cat");
        CHECK.accepted("the last one alone", alone.house, alone.house.shortest(0), 0);
    }

    private static void dead() {
        promise(31, "RIDDLES that no STATE has OPEN, as bits; NONE: 2; 10.");
        Hand hand = hand();
        CHECK.accepted("none", troubled(hand), hand.house.dead(0), 0);
        hand.rule(0, "riddle 0");
        CHECK.accepted("the first", hand.house, hand.house.dead(0), 1);
        hand.rule(1, "riddle 0");
        CHECK.accepted("and one behind it", hand.house, hand.house.dead(0), 3);
        hand.rule(2, "minute 999");
        CHECK.accepted("all", hand.house, hand.house.dead(998), 7);
        CHECK.accepted("at 999", hand.house, hand.house.dead(999), 3);
        hand.rule(1, "riddle 2");
        hand.rule(2, "not riddle 1");
        CHECK.accepted("open in some state is enough", hand.house, hand.house.dead(0), 1);
        hand.rule(0, "not solved 1");
        hand.rule(1, "solved 20");
        hand.rule(2, "solved 20");
        CHECK.accepted("in the first alone too", hand.house, hand.house.dead(0), 6);
        Hand twenty = new Hand();
        for (int r = 0; r < 20; r++) {
            twenty.riddle(0, 0, "a");
            twenty.rule(r, "solved 1");
        }
        CHECK.accepted("all twenty", twenty.house, twenty.house.dead(0), (1 << 20) - 1);
    }

    private static void orderOfStates() {
        promise(29, "NONE: 2; 9 (no last one); 10.");
        promise(30, "NONE: 2; 9; 10.");
        Hand hand = new Hand();
        for (int r = 0; r < 10; r++) {
            hand.riddle(0, 0, "a");
        }
        CHECK.refused("shut: a minute ahead of no last one", troubled(hand), hand.house.shut(-1), 2);
        CHECK.refused("shortest: a minute ahead of no last one", troubled(hand), hand.house.shortest(10000), 2);
        CHECK.refused("shut: no last one ahead of too many", troubled(hand), hand.house.shut(0), 9);
        CHECK.refused("shortest: no last one ahead of too many", troubled(hand), hand.house.shortest(0), 9);
        CHECK.refused("states: a minute ahead of too many", troubled(hand), hand.house.states(-1), 2);
        CHECK.refused("dead: a minute ahead of too many", troubled(hand), hand.house.dead(10000), 2);
        CHECK.refused("states: too many", troubled(hand), hand.house.states(0), 10);
        CHECK.refused("dead: too many", troubled(hand), hand.house.dead(0), 10);
        hand.riddle(2, 0, "z");
        CHECK.refused("shut: too many", troubled(hand), hand.house.shut(0), 10);
        CHECK.refused("shortest: too many", troubled(hand), hand.house.shortest(0), 10);
        hand.rule(0, "solved 20");
        hand.rule(1, "solved 20");
        CHECK.accepted("512", hand.house, hand.house.states(0), 512);
        CHECK.accepted("not shut", hand.house, hand.house.shut(0), -2);
    }

    // ---- 32

    private static void undo() {
        noneToUndo();
        ofAHundred();
        acts();
        behindUndo();
        refusedActs();
    }

    private static void noneToUndo() {
        promise(32, "1; 0 if there is none");
        HuntHouse house = new HuntHouse();
        CHECK.due("none yet", house.undo(), 0);
        house.pass(1);
        CHECK.due("one", house.undo(), 1);
        CHECK.due("taken back", house.count(3), 0);
        CHECK.due("no more", house.undo(), 0);
    }

    private static void ofAHundred() {
        promise(32, "The latest act that was accepted, and isn't taken back (of a hundred) is taken back");
        HuntHouse house = new HuntHouse();
        for (int k = 1; k <= 102; k++) {
            house.pass(k);
        }
        CHECK.due("the minute", house.count(3), 5253);
        for (int k = 102; k > 52; k--) {
            CHECK.due("undo " + k, house.undo(), 1);
        }
        CHECK.due("the minute", house.count(3), 1378);
        house.pass(1000);
        CHECK.due("the new one", house.undo(), 1);
        CHECK.due("the minute", house.count(3), 1378);
        for (int k = 52; k > 2; k--) {
            CHECK.due("undo " + k, house.undo(), 1);
        }
        CHECK.due("the hundred are gone", house.undo(), 0);
        CHECK.due("the minute", house.count(3), 3);
    }

    /** Taken back is the latest act, and nothing else: all that is told stands as it stood before. */
    private static void acts() {
        promise(32, "Acts: riddle, rule, form, working, patience, hint, book, team, pass, guess, buy.");
        for (int act = 0; act < 13; act++) {
            Hand hand = handWithAll();
            String before = toldOfAll(hand.house);
            int acts = hand.house.count(4);
            act(hand, act);
            CHECK.due("act " + act + " is one", hand.house.count(4), acts + 1);
            CHECK.due("undo", hand.house.undo(), 1);
            String behind = toldOfAll(hand.house);
            CHECK.due("act " + act + " taken back: " + behind + " for " + before, behind.equals(before), true);
            CHECK.due("acts", hand.house.count(4), acts);
            Hand other = handWithAll();
            act(other, act);
            CHECK.due("act " + act + " changes what is told", toldOfAll(other.house).equals(before), false);
        }
    }

    private static Hand handWithAll() {
        Hand hand = hand();
        hand.rule(1, "solved 0");
        hand.form(1, "abc");
        hand.working(1, "all 0");
        hand.house.patience(1, 2, 3);
        hand.house.hint(1, 0, 4);
        hand.house.hint(1, 0, 5);
        hand.book("word");
        hand.house.pass(6);
        hand.house.buy(0, 1);
        hand.guess(0, 1, "x");
        hand.house.pass(7);
        hand.guess(0, 0, "bird");
        return hand;
    }

    private static void act(Hand hand, int act) {
        switch (act) {
            case 0 -> hand.riddle(0, 5, "new");
            case 1 -> hand.rule(1, "riddle 2");
            case 2 -> hand.form(1, "abcd");
            case 3 -> hand.working(1, "all 0; back");
            case 4 -> hand.house.patience(1, 3, 4);
            case 5 -> hand.house.hint(1, 0, 6);
            case 6 -> hand.book("words");
            case 7 -> hand.house.team();
            case 8 -> hand.house.pass(1000);
            case 9 -> hand.guess(0, 1, "abc");
            case 10 -> hand.guess(0, 1, "wrong");
            case 11 -> hand.guess(1, 1, "near");
            default -> hand.house.buy(0, 1);
        }
    }

    private static String toldOfAll(HuntHouse house) {
        StringBuilder all = new StringBuilder();
        for (int what = 0; what < 4; what++) {
            all.append(house.count(what)).append(' ');
        }
        for (int r = 0; r < 4; r++) {
            for (int what = 0; what < 9; what++) {
                all.append(house.about(r, what)).append(' ');
            }
            all.append(house.make(r) > 0 ? house.out(0) : -1).append(' ').append(house.follows(r, -1)).append(' ');
            all.append(takes(house, r, "abc")).append(' ').append(takes(house, r, "abcd")).append(' ');
        }
        for (int t = 0; t < 3; t++) {
            for (int what = 0; what < 7; what++) {
                all.append(house.teamOf(t, what)).append(' ');
            }
            for (int r = 0; r < 4; r++) {
                all.append(house.open(t, r)).append(' ');
                for (int what = 0; what < 4; what++) {
                    all.append(house.told(t, r, what)).append(' ');
                }
            }
        }
        all.append(house.states(0)).append(' ').append(house.dead(0)).append(' ').append(house.rank(0, house.count(3)));
        return all.toString();
    }

    private static int takes(HuntHouse house, int riddle, String guess) {
        int[] five = Hand.numbers(guess, 0);
        house.feed(five[0], five[1], five[2], five[3], five[4]);
        int taken = house.takes(riddle, guess.length());
        house.takes(0, 0);
        return taken;
    }

    /** What comes in place of what was taken back has nothing of it. */
    private static void behindUndo() {
        promise(32, "is taken back");
        Hand hand = hand();
        hand.working(1, "take 1 of 0, 2 of 0, 3 of 0");
        hand.book("birds");
        hand.house.undo();
        CHECK.accepted("a shorter word", hand.house, hand.book("bir"), 1);
        CHECK.accepted("follows", hand.house, hand.house.follows(1, 0), 1);
        hand.riddle(0, 3, "twelveletter");
        hand.house.undo();
        CHECK.accepted("a shorter answer", hand.house, hand.riddle(0, 4, "t"), 3);
        CHECK.due("letters", hand.house.about(3, 2), 1);
        CHECK.due("round", hand.house.about(3, 1), 4);
        CHECK.accepted("the answer", hand.house, hand.takes(3, "t"), 1);
        hand.guess(1, 0, "bird");
        hand.guess(1, 1, "x");
        // Two guesses, the riddle, the word, the working, and the second team.
        for (int k = 0; k < 6; k++) {
            hand.house.undo();
        }
        CHECK.accepted("a new team", hand.house, hand.house.team(), 1);
        CHECK.due("none solved", hand.house.teamOf(1, 6), 0);
        CHECK.due("none wrong", hand.house.teamOf(1, 5), 0);
    }

    private static void refusedActs() {
        promise(32, "that was accepted");
        Hand hand = hand();
        int acts = hand.house.count(4);
        CHECK.due("acts", acts, 5);
        hand.riddle(2, 0, "cat");
        hand.rule(0, "?");
        hand.form(0, "?");
        hand.working(1, "?");
        hand.house.patience(0, 4, 0);
        hand.house.hint(0, 1000, 0);
        hand.book("?");
        hand.house.pass(0);
        hand.guess(9, 0, "bird");
        hand.house.buy(0, 0);
        hand.takes(0, "");
        for (int t = 2; t < 8; t++) {
            hand.house.team();
        }
        hand.house.team();
        CHECK.due("acts", hand.house.count(4), acts + 6);
        hand.house.undo();
        CHECK.due("the latest that was accepted", hand.house.count(1), 7);
    }

    // ---- 33

    private static void count() {
        promise(33, "4 acts that can be taken back, 5 bytes of THE TAPE, 6 letters of OUT. NONE for others.");
        Hand hand = hand();
        hand.book("word");
        hand.house.pass(9);
        hand.working(1, "all 0");
        hand.house.make(1);
        hand.feed("x");
        int[] want = {3, 2, 1, 9, 8, 20, 4};
        for (int what = 0; what <= 6; what++) {
            CHECK.due("count " + what, hand.house.count(what), want[what]);
        }
        int[] none = {-1, 7, Integer.MAX_VALUE, Integer.MIN_VALUE};
        for (int what : none) {
            CHECK.due("count " + what, hand.house.count(what), -1);
        }
        promise(34, "TROUBLE.");
        hand.house.pass(0);
        CHECK.due("trouble", hand.house.trouble(), 2);
        CHECK.due("asked again", hand.house.trouble(), 2);
    }
}

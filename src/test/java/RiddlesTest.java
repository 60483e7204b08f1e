/** Promises 1 to 3, 7, 8, 11: a new object, the tape, riddles, patience, hints, what is told of them. */
public final class RiddlesTest {
    private static final Check CHECK = new Check("RiddlesTest");

    public static void main(String[] args) {
        newObject();
        tape();
        bytesOfTape();
        riddles();
        wordsOfRiddles();
        blanksRoundWords();
        bytesBehindWords();
        roomForRiddles();
        patience();
        hints();
        about();
        CHECK.end();
    }

    private static void newObject() {
        HuntHouse house = new HuntHouse();
        for (int what = 0; what <= 6; what++) {
            CHECK.due("new: count " + what, house.count(what), 0);
        }
        CHECK.due("new: trouble", house.trouble(), 0);
        CHECK.due("new: fault", house.fault(), 0);
        CHECK.due("new: where", house.where(), -1);
        CHECK.due("new: undo", house.undo(), 0);
        CHECK.due("new: about", house.about(0, 0), -1);
        CHECK.due("new: teamOf", house.teamOf(0, 0), -1);
        CHECK.due("new: rank", house.rank(0, 0), -1);
        CHECK.due("new: states", house.states(0), 1);
        CHECK.due("new: dead", house.dead(0), 0);
    }

    private static void tape() {
        HuntHouse house = new HuntHouse();
        for (int n = 1; n <= 15; n++) {
            CHECK.due("feed " + n, house.feed(0, 0, 0, 0, 0), 20 * n);
        }
        CHECK.due("feed beyond", house.feed(1, 2, 3, 4, 5), -1);
        CHECK.due("tape is full", house.count(5), 300);
        CHECK.due("feed is not of trouble", house.trouble(), 0);
        CHECK.due("300 bytes can be used", house.book(300), -1);
        CHECK.due("they were no word", house.trouble(), 2);
        CHECK.due("tape is empty then", house.count(5), 0);
    }

    private static void bytesOfTape() {
        HuntHouse house = new HuntHouse();
        house.feed(0x61626364, 0x65666768, 0x696a6b6c, 0x20202020, 0x20202020);
        CHECK.due("twelve letters", house.riddle(0, 0, 12), 0);
        house.feed(0x20202020, 0x20202020, 0x20202020, 0x20202020, 0x20206162);
        house.feed(0x63202020, 0x20202020, 0x20202020, 0x20202020, 0x20202020);
        CHECK.due("order over feeds", house.steps(0, 40), 9);
        house.feed(0xe1, 0xff, 0x80, -1, -1);
        CHECK.due("bytes beyond 127 are no letters", house.steps(0, 20), 12);
    }

    private static void riddles() {
        Hand hand = new Hand();
        CHECK.due("first", hand.riddle(0, 0, "bird"), 0);
        CHECK.due("second", hand.riddle(1, 5, "a"), 1);
        CHECK.due("last", hand.riddle(2, 3, "twelveletter"), 2);
        CHECK.due("accepted", hand.house.trouble(), 0);
        CHECK.due("a second last one", hand.riddle(2, 0, "cab"), -1);
        CHECK.due("its trouble", hand.house.trouble(), 9);
        CHECK.due("its tape", hand.house.count(5), 0);
        CHECK.due("no word is told ahead of a second last one", hand.riddle(2, 0, "Cab"), -1);
        CHECK.due("its trouble", hand.house.trouble(), 2);
        hand.feed("bird");
        int[][] wrong = {{-1, 0, 4}, {3, 0, 4}, {0, -1, 4}, {0, 6, 4}, {0, 0, -1}, {0, 0, 21},
            {Integer.MAX_VALUE, 0, 4}, {0, Integer.MIN_VALUE, 4}, {0, 0, Integer.MAX_VALUE},
            {0, 0, Integer.MIN_VALUE}, {2, 6, 4}};
        for (int[] call : wrong) {
            hand.house.undo();
            hand.house.team();
            CHECK.due("wrong number", hand.house.riddle(call[0], call[1], call[2]), -1);
            CHECK.due("trouble of a wrong number", hand.house.trouble(), 2);
            CHECK.due("tape behind a wrong number", hand.house.count(5), 20);
        }
    }

    private static void wordsOfRiddles() {
        String[] none = {"", "Bird", "bi rd", " bi rd ", " ", "                    ", "bird1", "bird 1", "1 bird",
            "bird ?", "bird B", "thirteensigns", " thirteensigns ", "bird\0", "bird\t", "bird\u00a0", "b?", "\u00e1", "`", "{"};
        for (String text : none) {
            Hand hand = new Hand();
            CHECK.due("no word '" + text + "'", hand.riddle(0, 0, text), -1);
            CHECK.due("its trouble", hand.house.trouble(), 2);
            CHECK.due("its tape", hand.house.count(5), 0);
            CHECK.due("none is there", hand.house.count(0), 0);
        }
        String[] words = {"a", "z", "twelveletter"};
        for (String text : words) {
            Hand hand = new Hand();
            CHECK.due("word '" + text + "'", hand.riddle(0, 0, text), 0);
            CHECK.due("its letters", hand.house.about(0, 2), text.length());
            CHECK.due("its answer", hand.takes(0, text), 1);
        }
    }

    private static void blanksRoundWords() {
        String[] words = {"bird ", " bird", "  bird   ", "   twelveletter", "twelveletter                ",
            "a" + " ".repeat(299), " ".repeat(299) + "z", " ".repeat(14) + "splitbyfeeds" + " ".repeat(100)};
        for (String text : words) {
            Hand hand = new Hand();
            String word = text.replace(" ", "");
            CHECK.due("word '" + text + "'", hand.riddle(0, 0, text), 0);
            CHECK.due("accepted", hand.house.trouble(), 0);
            CHECK.due("its tape", hand.house.count(5), 0);
            CHECK.due("its letters", hand.house.about(0, 2), word.length());
            CHECK.due("its answer", hand.takes(0, word), 1);
            CHECK.due("steps to it", hand.steps(0, ""), word.length());
        }
    }

    /** What stands on THE TAPE behind the first n bytes is of no matter. */
    private static void bytesBehindWords() {
        Hand hand = new Hand();
        hand.feed("bird tree");
        CHECK.due("a blank, and more beyond n", hand.house.riddle(0, 0, 5), 0);
        CHECK.due("its letters", hand.house.about(0, 2), 4);
        hand.feed("bird tree");
        CHECK.due("two words", hand.house.riddle(0, 0, 6), -1);
        hand.feed("thirteensigns");
        CHECK.due("the first twelve letters", hand.house.riddle(0, 0, 12), 1);
        CHECK.due("their answer", hand.takes(1, "thirteensign"), 1);
    }

    private static void roomForRiddles() {
        Hand hand = new Hand();
        for (int r = 0; r < 20; r++) {
            CHECK.due("riddle " + r, hand.riddle(0, r % 6, "word"), r);
        }
        CHECK.due("the 21st", hand.riddle(0, 0, "word"), -1);
        CHECK.due("its trouble", hand.house.trouble(), 3);
        CHECK.due("its tape", hand.house.count(5), 0);
        CHECK.due("no word ahead of no room", hand.riddle(0, 0, "w0rd"), -1);
        CHECK.due("its trouble", hand.house.trouble(), 2);
        hand.house.undo();
        CHECK.due("a last one takes the place", hand.riddle(2, 0, "word"), 19);
        CHECK.due("a second last one ahead of no room", hand.riddle(2, 0, "word"), -1);
        CHECK.due("its trouble", hand.house.trouble(), 9);
    }

    private static void patience() {
        Hand hand = new Hand();
        hand.riddle(0, 0, "bird");
        CHECK.due("slack at first", hand.house.about(0, 3), 0);
        CHECK.due("lock at first", hand.house.about(0, 4), 0);
        CHECK.due("most", hand.house.patience(0, 3, 60), true);
        CHECK.due("slack", hand.house.about(0, 3), 3);
        CHECK.due("lock", hand.house.about(0, 4), 60);
        int[][] wrong = {{4, 0}, {-1, 0}, {0, 61}, {0, -1}};
        for (int[] call : wrong) {
            CHECK.due("wrong patience", hand.house.patience(0, call[0], call[1]), false);
            CHECK.due("its trouble", hand.house.trouble(), 2);
        }
        CHECK.due("no riddle", hand.house.patience(1, 9, 0), false);
        CHECK.due("its trouble", hand.house.trouble(), 1);
        CHECK.due("no riddle", hand.house.patience(-1, 0, 0), false);
        CHECK.due("slack stays", hand.house.about(0, 3), 3);
        CHECK.due("least", hand.house.patience(0, 0, 0), true);
        CHECK.due("accepted", hand.house.trouble(), 0);
        CHECK.due("slack", hand.house.about(0, 3), 0);
        CHECK.due("lock", hand.house.about(0, 4), 0);
    }

    private static void hints() {
        Hand hand = new Hand();
        hand.riddle(0, 0, "bird");
        int[][] wrong = {{-1, 0}, {1000, 0}, {0, -1}, {0, 1000}};
        for (int[] call : wrong) {
            CHECK.due("wrong hint", hand.house.hint(0, call[0], call[1]), -1);
            CHECK.due("its trouble", hand.house.trouble(), 2);
        }
        CHECK.due("first", hand.house.hint(0, 0, 999), 1);
        CHECK.due("second", hand.house.hint(0, 999, 0), 2);
        CHECK.due("told", hand.house.about(0, 5), 2);
        CHECK.due("third", hand.house.hint(0, 5, 5), 3);
        CHECK.due("fourth", hand.house.hint(0, 5, 5), -1);
        CHECK.due("its trouble", hand.house.trouble(), 3);
        CHECK.due("a wrong number ahead of no room", hand.house.hint(0, 1000, 5), -1);
        CHECK.due("its trouble", hand.house.trouble(), 2);
        CHECK.due("no riddle", hand.house.hint(1, 1000, 5), -1);
        CHECK.due("its trouble", hand.house.trouble(), 1);
        CHECK.due("told", hand.house.about(0, 5), 3);
    }

    private static void about() {
        Hand hand = new Hand();
        hand.riddle(0, 4, "bird");
        hand.riddle(1, 2, "tree");
        for (int what = 6; what <= 8; what++) {
            CHECK.due("no text " + what, hand.house.about(1, what), 0);
        }
        hand.rule(1, "solved 1");
        CHECK.due("rule", hand.house.about(1, 6) * 100 + hand.house.about(1, 7) * 10 + hand.house.about(1, 8), 100);
        hand.form(1, "tree");
        CHECK.due("form", hand.house.about(1, 6) * 100 + hand.house.about(1, 7) * 10 + hand.house.about(1, 8), 110);
        hand.working(1, "all 0");
        CHECK.due("working", hand.house.about(1, 6) * 100 + hand.house.about(1, 7) * 10 + hand.house.about(1, 8), 111);
        CHECK.due("kind", hand.house.about(1, 0), 1);
        CHECK.due("round", hand.house.about(0, 1), 4);
        CHECK.due("letters", hand.house.about(0, 2), 4);
        int[][] none = {{0, 9}, {0, -1}, {2, 0}, {-1, 0}, {20, 0}, {Integer.MIN_VALUE, 0}, {0, Integer.MAX_VALUE}};
        hand.house.pass(0);
        for (int[] call : none) {
            CHECK.due("about none", hand.house.about(call[0], call[1]), -1);
        }
        CHECK.due("about is not of trouble", hand.house.trouble(), 2);
    }
}

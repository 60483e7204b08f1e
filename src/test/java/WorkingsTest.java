import java.util.NoSuchElementException;

/** Promises 6, 14 to 19: what workings make, what is told with riddles unknown, OUT, the book. */
public final class WorkingsTest {
    private static final Check CHECK = new Check("WorkingsTest");

    public static void main(String[] args) {
        makes();
        broken();
        fits();
        unknown();
        follows();
        out();
        book();
        blanksRoundWords();
        noFaultOfWords();
        refusals();
        CHECK.end();
    }

    /** 0 bird, 1 tree, 2 zebra, 3 twelveletter, 4 (made) ab, 5 (last) dear. */
    private static Hand hand() {
        Hand hand = new Hand();
        hand.riddle(0, 0, "bird");
        hand.riddle(0, 1, "tree");
        hand.riddle(0, 1, "zebra");
        hand.riddle(0, 1, "twelveletter");
        hand.riddle(1, 2, "ab");
        hand.riddle(2, 0, "dear");
        return hand;
    }

    private static void made(String working, String want) {
        Hand hand = hand();
        CHECK.due("working '" + working + "'", hand.working(5, working), true);
        CHECK.due("make '" + working + "'", hand.house.make(5), want.length());
        CHECK.due("trouble", hand.house.trouble(), 0);
        CHECK.due("'" + working + "' made '" + hand.shown() + "' for '" + want + "'", hand.shown().equals(want), true);
    }

    private static void makes() {
        made("all 0", "bird");
        made("all 0; all 2", "birdzebra");
        made("take 1 of 0", "b");
        made("take 4 of 0, 1 of 1, 1 of 0, 12 of 3", "dtbr");
        made("all 0; back", "drib");
        made("all 2; back", "arbez");
        made("all 2; sort", "aberz");
        made("all 3; sort", "eeeellrttvwt".replace("rttvwt", "rtttvw"));
        made("all 2; shift 0", "zebra");
        made("all 2; shift 1", "afcsb");
        made("all 2; shift 25", "ydaqz");
        made("all 0; cut 1", "b");
        made("all 0; cut 4", "bird");
        made("all 0; cut 24", "bird");
        made("all 3; each 1", "twelveletter");
        made("all 3; each 2", "wleetr");
        made("all 3; each 5", "vt");
        made("all 3; each 12", "r");
        made("all 3; each 13", "");
        made("all 0; each 24", "");
        made("back", "");
        made("sort; shift 3; cut 2; each 2", "");
        made("all 3; all 3", "twelvelettertwelveletter");
        made("all 3; all 3; each 24", "r");
        made("all 3; all 3; cut 12; all 3", "twelvelettertwelveletter");
        made("all 4; shift 1; all 4; back; all 4", "bacbab");
        made("take 1 of 4; all 0; sort; shift 2; back; cut 3; each 2; all 1", "ktree");
        made("all 0;all 1;all 2;back;sort;shift 1;cut 9;each 2;back;all 4;sort;shift 25", makeByHand());
    }

    /** The same by hand: birdtreezebra; sorted abbdeeeirrrtz; shifted; nine; each second; turned; with ab; sorted; back one. */
    private static String makeByHand() {
        String nine = "bccefffjs";
        String each = "" + nine.charAt(1) + nine.charAt(3) + nine.charAt(5) + nine.charAt(7);
        char[] row = (new StringBuilder(each).reverse() + "ab").toCharArray();
        java.util.Arrays.sort(row);
        for (int i = 0; i < row.length; i++) {
            row[i] = row[i] == 'a' ? 'z' : (char) (row[i] - 1);
        }
        return new String(row);
    }

    private static void broken(String working) {
        Hand hand = hand();
        CHECK.due("a row to keep", hand.working(5, "all 0"), true);
        hand.house.make(5);
        CHECK.due("working '" + working + "'", hand.working(5, working), true);
        CHECK.due("make '" + working + "'", hand.house.make(5), -1);
        CHECK.due("its trouble", hand.house.trouble(), 9);
        CHECK.due("fits", hand.house.fits(5), 0);
        CHECK.due("fits is not refused", hand.house.trouble(), 0);
        CHECK.due("without", hand.house.without(5, 63), -1);
        CHECK.due("its trouble", hand.house.trouble(), 9);
        hand.house.states(0);
        CHECK.due("follows", hand.house.follows(5, 63), -1);
        CHECK.due("its trouble", hand.house.trouble(), 9);
        CHECK.due("OUT stays", hand.shown().equals("bird"), true);
    }

    private static void broken() {
        broken("take 5 of 0");
        broken("take 12 of 2; cut 1");
        broken("all 0; take 3 of 4");
        broken("all 3; all 3; take 1 of 0");
        broken("all 3; all 3; all 0; cut 3");
        broken("all 3; take 1 of 0, 1 of 0, 1 of 0, 1 of 0, 1 of 0; all 3");
        broken("all 3; all 2; all 2; all 1");
    }

    private static void fits() {
        Hand hand = hand();
        CHECK.due("none yet", hand.house.fits(5), -1);
        CHECK.due("its trouble", hand.house.trouble(), 9);
        hand.working(5, "take 4 of 0, 3 of 1, 5 of 2, 4 of 2");
        CHECK.due("dear", hand.house.fits(5), 1);
        CHECK.due("not refused", hand.house.trouble(), 0);
        CHECK.due("OUT stays", hand.house.count(6), 0);
        hand.working(5, "take 4 of 0, 3 of 1, 5 of 2");
        CHECK.due("less", hand.house.fits(5), 0);
        hand.working(5, "take 4 of 0, 3 of 1, 5 of 2, 4 of 2, 1 of 0");
        CHECK.due("more", hand.house.fits(5), 0);
        hand.working(5, "take 4 of 0, 3 of 1, 5 of 2, 3 of 2");
        CHECK.due("another", hand.house.fits(5), 0);
        hand.working(4, "take 5 of 2, 1 of 0");
        CHECK.due("a made one", hand.house.fits(4), 1);
        int[] none = {6, -1, 20};
        for (int riddle : none) {
            CHECK.due("no riddle", hand.house.fits(riddle), -1);
            CHECK.due("its trouble", hand.house.trouble(), 1);
        }
        CHECK.due("a plain one", hand.house.fits(0), -1);
        CHECK.due("its trouble", hand.house.trouble(), 9);
    }

    private static void without(String working, int unknown, String want) {
        Hand hand = hand();
        hand.working(5, working);
        CHECK.due("without '" + working + "'", hand.house.without(5, unknown), want.length());
        CHECK.due("not refused", hand.house.trouble(), 0);
        CHECK.due("'" + working + "' without " + unknown + " made '" + hand.shown() + "' for '" + want + "'",
            hand.shown().equals(want), true);
    }

    private static void unknown() {
        without("all 0; all 1", 0, "birdtree");
        without("all 0; all 1", 1, "????tree");
        without("all 0; all 1", 2, "bird????");
        without("all 0; all 1", -1, "????????");
        without("all 0; all 1", ~1, "bird????");
        without("all 0; all 1", 1 << 31 | 1 << 20 | 4, "birdtree");
        without("take 1 of 0, 1 of 1, 2 of 0; shift 1", 2, "c?j");
        without("take 1 of 0, 1 of 1; back", 2, "?b");
        without("take 1 of 0, 1 of 1; sort", 2, "??");
        without("take 1 of 0, 1 of 1; sort; all 0", 2, "??bird");
        without("take 2 of 0, 1 of 0; sort; all 1", 2, "bi????");
        without("all 0; all 1; cut 4; sort", 2, "bdir");
        without("all 0; all 1; each 4; back", 2, "?d");
        without("back", -1, "");
        without("all 0; all 1; sort; cut 5; all 0; shift 1", 2, "?????cjse");
    }

    private static void follows() {
        Hand hand = hand();
        String[] words = {"ab", "bird", "bard", "bare", "b", "tree", "dirb", "bird"};
        for (String word : words) {
            hand.book(word);
        }
        hand.working(5, "all 0");
        hand.house.make(5);
        CHECK.due("known: each time it stands there", hand.house.follows(5, 0), 2);
        CHECK.due("unknown", hand.house.follows(5, 1), 6);
        CHECK.due("not refused", hand.house.trouble(), 0);
        hand.working(5, "take 1 of 0, 1 of 1, 3 of 0, 1 of 1");
        CHECK.due("b?r?", hand.house.follows(5, 2), 4);
        CHECK.due("?t?t", hand.house.follows(5, 1), 0);
        CHECK.due("another's bits", hand.house.follows(5, ~3), 0);
        hand.working(5, "back");
        CHECK.due("no letters", hand.house.follows(5, -1), 0);
        hand.working(5, "all 3; all 3");
        CHECK.due("more than a word has", hand.house.follows(5, -1), 0);
        CHECK.due("OUT stays", hand.shown().equals("bird"), true);
    }

    private static int thrown(HuntHouse house, int i) {
        try {
            house.out(i);
            return 0;
        } catch (NoSuchElementException e) {
            return 1;
        }
    }

    private static void out() {
        Hand hand = hand();
        CHECK.due("none at first", thrown(hand.house, 0), 1);
        hand.working(5, "all 0");
        hand.house.make(5);
        CHECK.due("first", hand.house.out(0), 'b');
        CHECK.due("last", hand.house.out(3), 'd');
        int[] none = {4, -1, 24, Integer.MAX_VALUE, Integer.MIN_VALUE};
        for (int i : none) {
            CHECK.due("none at " + i, thrown(hand.house, i), 1);
        }
        hand.house.without(5, 1);
        CHECK.due("a ?", hand.house.out(0), 63);
        hand.house.undo();
        CHECK.due("OUT is no act's", hand.house.count(6), 4);
    }

    private static void book() {
        Hand hand = new Hand();
        for (int n = 1; n <= 40; n++) {
            CHECK.due("word " + n, hand.book(n % 2 == 0 ? "twelveletter" : "a"), n);
        }
        CHECK.due("the 41st", hand.book("a"), -1);
        CHECK.due("its trouble", hand.house.trouble(), 3);
        CHECK.due("its tape", hand.house.count(5), 0);
        CHECK.due("no word ahead of no room", hand.book("A"), -1);
        CHECK.due("its trouble", hand.house.trouble(), 2);
        CHECK.due("words", hand.house.count(2), 40);
        String[] none = {"", " ", "thirteensigns", " thirteensigns", "Ab", "a b", " a b ", "a 1", "a ?", "a\0"};
        for (String text : none) {
            Hand other = new Hand();
            CHECK.due("no word '" + text + "'", other.book(text), -1);
            CHECK.due("its trouble", other.house.trouble(), 2);
            CHECK.due("its tape", other.house.count(5), 0);
            CHECK.due("none came", other.house.count(2), 0);
        }
        Hand third = new Hand();
        third.feed("word");
        int[] wrong = {-1, 21, Integer.MAX_VALUE, Integer.MIN_VALUE};
        for (int n : wrong) {
            CHECK.due("n " + n, third.house.book(n), -1);
            CHECK.due("its trouble", third.house.trouble(), 2);
            CHECK.due("tape stays", third.house.count(5), 20);
        }
        CHECK.due("accepted", third.house.book(4) * 10 + third.house.trouble(), 10);
    }

    /** Also what is read behind a word may not hang on where on THE TAPE it stood. */
    private static void blanksRoundWords() {
        Hand hand = hand();
        hand.working(5, "all 0");
        String[] words = {"bird ", " bird", "   bird                        ", "bird" + " ".repeat(296)};
        for (int w = 0; w < words.length; w++) {
            CHECK.due("word '" + words[w] + "'", hand.book(words[w]), w + 1);
            CHECK.due("accepted", hand.house.trouble(), 0);
            CHECK.due("its tape", hand.house.count(5), 0);
            CHECK.due("it is that word", hand.house.follows(5, 0), w + 1);
        }
        hand.book("   bard ");
        CHECK.due("another of its length", hand.house.follows(5, 1), words.length + 1);
        hand.house.undo();
        hand.house.undo();
        CHECK.due("taken back", hand.house.follows(5, 1), words.length - 1);
        CHECK.due("words", hand.house.count(2), words.length - 1);
    }

    /** A word is read as texts are, but its want is no FAULT. */
    private static void noFaultOfWords() {
        Hand hand = hand();
        hand.working(5, "all 9");
        CHECK.due("where", hand.house.where(), 4);
        hand.book("no word");
        CHECK.due("fault behind book", hand.house.fault(), 2);
        CHECK.due("where behind book", hand.house.where(), -1);
        hand.working(5, "all 9");
        hand.riddle(0, 0, " word ");
        CHECK.due("fault behind riddle", hand.house.fault(), 2);
        CHECK.due("where behind riddle", hand.house.where(), -1);
    }

    private static void refusals() {
        Hand hand = hand();
        int[] none = {6, -1, 20, Integer.MAX_VALUE};
        for (int riddle : none) {
            hand.house.states(0);
            CHECK.due("make: no riddle", hand.house.make(riddle), -1);
            CHECK.due("its trouble", hand.house.trouble(), 1);
            hand.house.states(0);
            CHECK.due("without: no riddle", hand.house.without(riddle, 0), -1);
            CHECK.due("its trouble", hand.house.trouble(), 1);
            hand.house.states(0);
            CHECK.due("follows: no riddle", hand.house.follows(riddle, 0), -1);
            CHECK.due("its trouble", hand.house.trouble(), 1);
        }
        int[] noWorking = {0, 4, 5};
        for (int riddle : noWorking) {
            hand.house.states(0);
            CHECK.due("make: no working", hand.house.make(riddle), -1);
            CHECK.due("its trouble", hand.house.trouble(), 9);
            hand.house.states(0);
            CHECK.due("without: no working", hand.house.without(riddle, 0), -1);
            CHECK.due("its trouble", hand.house.trouble(), 9);
            hand.house.states(0);
            CHECK.due("follows: no working", hand.house.follows(riddle, 0), -1);
            CHECK.due("its trouble", hand.house.trouble(), 9);
        }
    }
}

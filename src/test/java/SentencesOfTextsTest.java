/** Terms II to IV, sentence by sentence: rules, forms, workings. */
public final class SentencesOfTextsTest {
    private static final Check CHECK = new Check("SentencesOfTextsTest");

    public static void main(String[] args) {
        rules();
        forms();
        workings();
        CHECK.end();
    }

    // ---- II

    private static void rules() {
        withoutRule();
        joins();
        solved();
        riddle();
        round();
        minute();
        manyFacts();
        manyOpenOfRules();
        manyNots();
    }

    private static void rule(String words) {
        CHECK.sentence("II.", words);
    }

    /** Riddles "a" to "t", of rounds 0 to 5 again and again; the first so many are solved by team 0. */
    private static Hand hunt(int solved) {
        Hand hand = new Hand();
        for (int r = 0; r < 20; r++) {
            hand.riddle(0, r % 6, letter(r));
        }
        hand.house.team();
        for (int r = 0; r < solved; r++) {
            hand.guess(0, r, letter(r));
        }
        CHECK.due("solved", hand.house.teamOf(0, 1), solved);
        return hand;
    }

    private static String letter(int number) {
        return String.valueOf((char) ('a' + number));
    }

    private static void open(Hand hand, String rule, int want) {
        CHECK.due("rule '" + rule + "'", hand.rule(19, rule), true);
        CHECK.accepted("open by '" + rule + "'", hand.house, hand.house.open(0, 19), want);
    }

    private static void fault(Hand hand, String what, boolean got, int fault, int place) {
        CHECK.refused(what, hand.house, got, 4);
        CHECK.due(what + ": fault", hand.house.fault(), fault);
        CHECK.due(what + ": where", hand.house.where(), place);
    }

    private static void withoutRule() {
        rule("without one always");
        Hand hand = hunt(0);
        CHECK.accepted("at minute 0, with none solved", hand.house, hand.house.open(0, 19), 1);
        hand.rule(19, "not solved 0");
        CHECK.due("never, with a rule", hand.house.open(0, 19), 0);
        hand.house.undo();
        CHECK.due("always, without one again", hand.house.open(0, 19), 1);
    }

    private static void joins() {
        rule("ANY: ALL {or ALL}. ALL: ONE {and ONE}. ONE: not ONE, ( ANY )");
        Hand hand = hunt(1);
        open(hand, "riddle 0 or riddle 1 and riddle 1", 1);
        open(hand, "riddle 1 and riddle 1 or riddle 0", 1);
        open(hand, "(riddle 0 or riddle 1) and riddle 1", 0);
        open(hand, "not riddle 1 and riddle 1", 0);
        open(hand, "not riddle 0 or riddle 0", 1);
        open(hand, "not (riddle 0 or riddle 1)", 0);
        open(hand, "not (riddle 0 and riddle 1)", 1);
        open(hand, "not not riddle 0", 1);
        open(hand, "not not not riddle 0", 0);
        open(hand, "riddle 1 or riddle 2 or riddle 0", 1);
        open(hand, "riddle 0 and not riddle 1 and riddle 2", 0);
    }

    private static void solved() {
        rule("solved NUMBER (so many RIDDLES at least; 0 .. 20)");
        Hand hand = hunt(7);
        open(hand, "solved 0", 1);
        open(hand, "solved 6", 1);
        open(hand, "solved 7", 1);
        open(hand, "solved 8", 0);
        open(hand, "solved 20", 0);
        fault(hand, "21", hand.rule(19, "solved 21"), 3, 7);
        Hand all = hunt(20);
        open(all, "solved 20", 1);
        open(hunt(0), "solved 0", 1);
        open(hunt(0), "solved 1", 0);
    }

    private static void riddle() {
        rule("riddle NUMBER (it is solved)");
        Hand hand = hunt(7);
        open(hand, "riddle 0", 1);
        open(hand, "riddle 6", 1);
        open(hand, "riddle 7", 0);
        open(hand, "riddle 19", 0);
        open(hunt(20), "riddle 19", 1);
    }

    private static void round() {
        rule("round NUMBER NUMBER (of a ROUND, 0 .. 5, so many at least, 0 .. 20)");
        Hand hand = hunt(7);
        open(hand, "round 0 2", 1);
        open(hand, "round 0 3", 0);
        open(hand, "round 5 1", 1);
        open(hand, "round 5 2", 0);
        open(hand, "round 5 0", 1);
        open(hand, "round 0 20", 0);
        fault(hand, "round 6", hand.rule(19, "round 6 1"), 3, 6);
        fault(hand, "21 of one", hand.rule(19, "round 5 21"), 3, 8);
        fault(hand, "one number alone", hand.rule(19, "round 5"), 1, 7);
        Hand one = new Hand();
        for (int r = 0; r < 20; r++) {
            one.riddle(0, 5, letter(r));
        }
        one.house.team();
        one.rule(19, "round 5 19");
        for (int r = 0; r < 20; r++) {
            CHECK.due("solving", one.guess(0, r, letter(r)), 1);
        }
        open(one, "round 5 20", 1);
        open(one, "round 4 1", 0);
        open(one, "round 4 0", 1);
    }

    private static void minute() {
        rule("minute NUMBER (the MINUTE is at least it)");
        Hand hand = hunt(0);
        open(hand, "minute 0", 1);
        open(hand, "minute 1", 0);
        hand.house.pass(998);
        open(hand, "minute 998", 1);
        open(hand, "minute 999", 0);
        hand.house.pass(1);
        open(hand, "minute 999", 1);
        hand.house.pass(1000);
        open(hand, "minute 999", 1);
    }

    /** A 31st has no room in 300 bytes: thirty, as short as they can be, are 297, with "or" behind them 299. */
    private static void manyFacts() {
        rule("a 31st of solved, riddle, round, minute");
        Hand hand = hunt(0);
        String thirty = "minute0" + "or riddle0".repeat(10) + "or solved0".repeat(19);
        CHECK.due("bytes", thirty.length(), 297);
        open(hand, thirty, 1);
        fault(hand, "a join behind them", hand.rule(19, thirty + "or"), 1, 299);
        open(hand, "minute9" + "or riddle0".repeat(29), 0);
        hand.guess(0, 0, "a");
        open(hand, "minute9" + "or riddle1".repeat(28) + "or riddle0", 1);
    }

    private static void manyOpenOfRules() {
        rule("a ninth ( open");
        Hand hand = hunt(1);
        open(hand, "(".repeat(8) + "riddle 0" + ")".repeat(8), 1);
        open(hand, "not(".repeat(8) + "riddle 0" + ")".repeat(8), 1);
        open(hand, "not(".repeat(7) + "riddle 0" + ")".repeat(7), 0);
        open(hand, "(".repeat(8) + "riddle 1" + ")".repeat(8) + "or" + "(".repeat(8) + "riddle 0" + ")".repeat(8), 1);
        fault(hand, "nine", hand.rule(19, "(".repeat(9) + "riddle 0" + ")".repeat(9)), 4, 8);
        fault(hand, "nine behind eight", hand.rule(19, "((((((((riddle 0)))))))) and (((((((((riddle 0"), 4, 37);
    }

    private static void manyNots() {
        rule("a ninth not right behind others");
        Hand hand = hunt(1);
        open(hand, "not ".repeat(8) + "riddle 0", 1);
        open(hand, "not ".repeat(7) + "riddle 0", 0);
        open(hand, "not ".repeat(8) + "(" + "not ".repeat(8) + "riddle 0)", 1);
        open(hand, "not ".repeat(8) + "riddle 0 and " + "not ".repeat(8) + "riddle 0", 1);
        fault(hand, "nine", hand.rule(19, "not ".repeat(9) + "riddle 0"), 4, 32);
        fault(hand, "nine in a (", hand.rule(19, "(" + "not ".repeat(9) + "riddle 0)"), 4, 33);
    }

    // ---- III

    private static void forms() {
        withoutForm();
        eitherRowPart();
        anyOrder();
        mayLack();
        justItsLetters();
        manyWords();
        manyWordsOfBrackets();
        manyOpenOfForms();
    }

    private static void form(String words) {
        CHECK.sentence("III.", words);
    }

    private static void takes(String form, String guess, int want) {
        Hand hand = new Hand();
        hand.riddle(0, 0, "twelveletter");
        CHECK.due("form '" + form + "'", hand.form(0, form), true);
        CHECK.accepted("'" + form + "' and '" + guess + "'", hand.house, hand.takes(0, guess), want);
    }

    private static void withoutForm() {
        form("without one the ANSWER alone");
        Hand hand = new Hand();
        hand.riddle(0, 0, "bird");
        CHECK.accepted("the answer", hand.house, hand.takes(0, "bird"), 1);
        String[] others = {"", "b", "bir", "birds", "bird bird", "bire", "aird"};
        for (String guess : others) {
            CHECK.accepted("'" + guess + "'", hand.house, hand.takes(0, guess), 0);
        }
        hand.form(0, "crow");
        CHECK.due("with a form the answer no more", hand.takes(0, "bird") == 1, false);
        hand.house.undo();
        CHECK.due("without it the answer again", hand.takes(0, "bird"), 1);
    }

    private static void eitherRowPart() {
        form("EITHER: ROW {/ ROW}. ROW: PART {PART}. PART: WORD, ( EITHER ), or [ WORD {WORD} ]");
        takes("a", "a", 1);
        takes("a b/c", "ab", 1);
        takes("a b/c", "c", 1);
        takes("a b/c", "ac", 0);
        takes("a(b/c d)e", "abe", 1);
        takes("a(b/c d)e", "acde", 1);
        takes("a(b/c d)e", "abde", 0);
        takes("[a]", "a", 1);
        Hand hand = new Hand();
        hand.riddle(0, 0, "bird");
        String[] without = {"", "/a", "a/", "a//b", "()", "(a/)", "[]", "(/a)"};
        int[] places = {0, 0, 2, 2, 1, 3, 1, 1};
        for (int k = 0; k < without.length; k++) {
            fault(hand, "'" + without[k] + "'", hand.form(0, without[k]), 1, places[k]);
        }
    }

    private static void anyOrder() {
        form("(these, in any order)");
        String[] orders = {"abcd", "abdc", "acbd", "acdb", "adbc", "adcb", "bacd", "badc", "bcad", "bcda", "bdac", "bdca",
            "cabd", "cadb", "cbad", "cbda", "cdab", "cdba", "dabc", "dacb", "dbac", "dbca", "dcab", "dcba"};
        for (String order : orders) {
            takes("[a b c d]", order, 1);
        }
        String[] others = {"", "abc", "abca", "abcda", "aabcd", "abce"};
        for (String guess : others) {
            takes("[a b c d]", guess, 0);
        }
        takes("[a ab]", "aab", 1);
        takes("[a ab]", "aba", 1);
        takes("[a ab]", "aaab", 0);
        takes("[a a]", "a", 0);
        takes("[a a]", "aa", 1);
        takes("[a]b", "ab", 1);
        takes("[a]b", "ba", 0);
        takes("a[b c][d e]f", "acbedf", 1);
        takes("a[b c][d e]f", "abdcef", 0);
    }

    private static void mayLack() {
        form("WORDS and ( ) perhaps with a ? behind (it may lack)");
        takes("a?", "", 1);
        takes("a?", "a", 1);
        takes("a?", "aa", 0);
        takes("(a/b)?c?", "", 1);
        takes("(a/b)?c?", "bc", 1);
        takes("(a/b)?c?", "ab", 0);
        Hand hand = new Hand();
        hand.riddle(0, 0, "bird");
        fault(hand, "a ? of [ ]", hand.form(0, "[a b]?"), 1, 5);
        fault(hand, "a ? in [ ]", hand.form(0, "[a? b]"), 1, 2);
        fault(hand, "a second ?", hand.form(0, "(a)??"), 1, 4);
        fault(hand, "a ? first", hand.form(0, "?a"), 1, 0);
    }

    private static void justItsLetters() {
        form("A form takes a guess if some way of its ROW's PARTS, one behind the other, are just its letters.");
        takes("a?a?a?", "aaa", 1);
        takes("a?a?a?", "aaaa", 0);
        takes("a?ab", "ab", 1);
        takes("(a/ab)(c/bc)d", "abcd", 1);
        takes("(a/ab)(c/bc)d", "abbcd", 1);
        takes("(a/ab)(c/bc)d", "acbd", 0);
        takes("bird", "Bi-RD 7!", 1);
        takes("bird", "abird", 0);
        takes("bird", "birdy", 0);
        takes("twelveletter ".repeat(23), "twelveletter".repeat(23), 1);
        takes("twelveletter ".repeat(23), "twelveletter".repeat(25), 0);
        takes("twelveletter ".repeat(23), "twelveletter".repeat(22) + "twelvelettex", 0);
    }

    private static void manyWords() {
        form("a 41st WORD");
        Hand hand = new Hand();
        hand.riddle(0, 0, "bird");
        CHECK.due("40", hand.form(0, "a ".repeat(40)), true);
        CHECK.due("they take 40 letters", hand.takes(0, "a".repeat(40)), 1);
        fault(hand, "41", hand.form(0, "a ".repeat(41)), 4, 80);
        CHECK.due("40, parted by /", hand.form(0, "a/".repeat(39) + "b"), true);
        fault(hand, "41, parted by /", hand.form(0, "a/".repeat(40) + "b"), 4, 80);
        CHECK.due("40, of [ ] too", hand.form(0, "[a b c d]".repeat(9) + "a?(b)c d"), true);
        fault(hand, "the 41st in a [ ]", hand.form(0, "[a b c d]".repeat(9) + "a?(b)c[d e]"), 4, 90);
        fault(hand, "the 41st in a (", hand.form(0, "[a b c d]".repeat(10) + "(e)"), 4, 91);
    }

    private static void manyWordsOfBrackets() {
        form("a fifth WORD of [ ]");
        Hand hand = new Hand();
        hand.riddle(0, 0, "bird");
        CHECK.due("four", hand.form(0, "[a b c d]"), true);
        fault(hand, "five", hand.form(0, "[a b c d e]"), 4, 9);
        CHECK.due("four, and four", hand.form(0, "[a b c d][e f g h]"), true);
        fault(hand, "four, and five", hand.form(0, "[a b c d][e f g h i]"), 4, 18);
        CHECK.due("five of a (", hand.form(0, "(a b c d e)"), true);
    }

    private static void manyOpenOfForms() {
        form("a ninth ( open");
        Hand hand = new Hand();
        hand.riddle(0, 0, "bird");
        CHECK.due("eight", hand.form(0, "(".repeat(8) + "a" + ")?".repeat(8)), true);
        CHECK.due("they take", hand.takes(0, "a") * 10 + hand.takes(0, ""), 11);
        CHECK.due("eight behind eight", hand.form(0, "((((((((a))))))))((((((((b))))))))"), true);
        CHECK.due("they take", hand.takes(0, "ab") * 10 + hand.takes(0, "a"), 10);
        fault(hand, "nine", hand.form(0, "(".repeat(9) + "a" + ")".repeat(9)), 4, 8);
        CHECK.due("a [ is none", hand.form(0, "(".repeat(8) + "[a b]" + ")".repeat(8)), true);
    }

    // ---- IV

    private static void workings() {
        kinds();
        take();
        all();
        shift();
        back();
        sort();
        cut();
        each();
        places();
        beginsWithNothing();
        placeBeyondAnswer();
        moreThan24Letters();
        manySteps();
        manyOfTake();
        notKnown();
        shiftedQuestion();
        sortedQuestion();
        follows();
    }

    private static void working(String words) {
        CHECK.sentence("IV.", words);
    }

    /** 0 bird, 1 zebra, 2 twelveletter, 3 (made) a. */
    private static Hand house() {
        Hand hand = new Hand();
        hand.riddle(0, 0, "bird");
        hand.riddle(0, 0, "zebra");
        hand.riddle(0, 0, "twelveletter");
        hand.riddle(1, 0, "a");
        return hand;
    }

    private static void made(String working, String want) {
        without(working, 0, want);
        Hand hand = house();
        hand.working(3, working);
        CHECK.accepted("make '" + working + "'", hand.house, hand.house.make(3), want.length());
        CHECK.due("'" + working + "' made '" + hand.shown() + "' for '" + want + "'", hand.shown().equals(want), true);
    }

    private static void without(String working, int unknown, String want) {
        Hand hand = house();
        CHECK.due("working '" + working + "'", hand.working(3, working), true);
        CHECK.accepted("without '" + working + "'", hand.house, hand.house.without(3, unknown), want.length());
        CHECK.due("'" + working + "' without " + unknown + " made '" + hand.shown() + "' for '" + want + "'",
            hand.shown().equals(want), true);
    }

    private static void broken(String working) {
        Hand hand = house();
        CHECK.due("working '" + working + "'", hand.working(3, working), true);
        CHECK.refused("make '" + working + "'", hand.house, hand.house.make(3), 9);
        CHECK.accepted("fits '" + working + "'", hand.house, hand.house.fits(3), 0);
        CHECK.refused("without '" + working + "'", hand.house, hand.house.without(3, -1), 9);
        hand.house.fits(3);
        CHECK.refused("follows '" + working + "'", hand.house, hand.house.follows(3, -1), 9);
        CHECK.due("OUT stays", hand.house.count(6), 0);
    }

    private static void kinds() {
        working("(of kinds 1 and 2)");
        Hand hand = house();
        hand.riddle(2, 0, "last");
        hand.feed("back");
        CHECK.refused("kind 0", hand.house, hand.house.working(2, 4), 9);
        CHECK.due("kind 1", hand.house.working(3, 4), true);
        CHECK.due("kind 2", hand.working(4, "back"), true);
    }

    private static void take() {
        working("(the letter of that place, from 1 on, of a RIDDLE's ANSWER comes behind)");
        made("take 1 of 0", "b");
        made("take 4 of 0", "d");
        made("take 12 of 2", "r");
        made("all 0; take 1 of 1, 5 of 1", "birdza");
    }

    private static void all() {
        working("all NUMBER (a whole ANSWER)");
        made("all 1", "zebra");
        made("all 2; all 0", "twelveletterbird");
    }

    private static void shift() {
        working("shift NUMBER (each letter so many on, 0 .. 25, round)");
        made("all 1; shift 0", "zebra");
        made("all 1; shift 1", "afcsb");
        made("all 1; shift 25", "ydaqz");
        made("all 1; shift 13; shift 13", "zebra");
        Hand hand = house();
        fault(hand, "26", hand.working(3, "shift 26"), 3, 6);
    }

    private static void back() {
        working("back (turned about)");
        made("all 0; back", "drib");
        made("all 1; back", "arbez");
        made("take 1 of 0; back", "b");
        made("back", "");
    }

    private static void sort() {
        working("sort (letters by the alphabet)");
        made("all 1; sort", "aberz");
        made("all 1; back; sort", "aberz");
        made("all 2; sort", "eeeellrtttvw");
        made("sort", "");
    }

    private static void cut() {
        working("cut NUMBER (its first so many letters, 1 .. 24)");
        made("all 0; cut 1", "b");
        made("all 0; cut 3", "bir");
        made("all 0; cut 5", "bird");
        made("all 2; all 2; cut 23", "twelvelettertwelvelette");
        made("all 2; all 2; cut 24", "twelvelettertwelveletter");
        Hand hand = house();
        fault(hand, "0", hand.working(3, "cut 0"), 3, 4);
        fault(hand, "25", hand.working(3, "cut 25"), 3, 4);
    }

    private static void each() {
        working("each NUMBER (the NUMBER-th letter, then each NUMBER-th behind; 1 .. 24)");
        made("all 1; each 1", "zebra");
        made("all 1; each 2", "er");
        made("all 1; each 5", "a");
        made("all 1; each 6", "");
        made("all 2; all 2; each 12", "rr");
        made("all 2; all 2; each 24", "r");
        Hand hand = house();
        fault(hand, "0", hand.working(3, "each 0"), 3, 5);
        fault(hand, "25", hand.working(3, "each 25"), 3, 5);
    }

    private static void places() {
        working("Places 1 .. 12");
        made("take 1 of 2, 12 of 2", "tr");
        Hand hand = house();
        fault(hand, "0", hand.working(3, "take 0 of 2"), 3, 5);
        fault(hand, "13", hand.working(3, "take 13 of 2"), 3, 5);
    }

    private static void beginsWithNothing() {
        working("It begins with nothing.");
        made("cut 5; each 3; shift 9; sort; back", "");
        Hand hand = house();
        hand.working(3, "all 0");
        hand.house.make(3);
        CHECK.accepted("anew each time", hand.house, hand.house.make(3), 4);
    }

    private static void placeBeyondAnswer() {
        working("BROKEN: a place beyond an ANSWER");
        made("take 4 of 0, 5 of 1", "da");
        broken("take 5 of 0");
        broken("take 6 of 1; cut 1");
        broken("take 12 of 0");
    }

    private static void moreThan24Letters() {
        working("more than 24 letters at any STEP");
        made("all 2; all 2", "twelvelettertwelveletter");
        broken("all 2; all 2; take 1 of 0");
        broken("all 2; all 1; all 1; all 0");
        broken("all 2; all 2; all 0; cut 1");
        made("all 2; all 2; cut 20; all 0", "twelvelettertwelvelebird");
        broken("all 2; all 2; cut 21; all 0");
    }

    private static void manySteps() {
        working("a thirteenth STEP");
        made("all 0" + ";back".repeat(11), "drib");
        Hand hand = house();
        fault(hand, "thirteen", hand.working(3, "all 0" + ";back".repeat(12)), 4, 61);
    }

    private static void manyOfTake() {
        working("a 13th of a take");
        String twelve = "take 1 of 0" + ",2 of 0".repeat(11);
        made(twelve, "biiiiiiiiiii");
        made(twelve + ";" + twelve, "biiiiiiiiiiibiiiiiiiiiii");
        Hand hand = house();
        fault(hand, "thirteen", hand.working(3, twelve + ",2 of 0"), 4, 89);
    }

    private static void notKnown() {
        working("With some RIDDLES not known (their lengths are) their letters are ?");
        without("all 0; all 1", 0, "birdzebra");
        without("all 0; all 1", 1, "????zebra");
        without("all 0; all 1", 2, "bird?????");
        without("all 0; all 1", 3, "?????????");
        without("all 0; all 1", 4, "birdzebra");
        without("take 4 of 0, 5 of 1; back", 2, "?d");
        without("all 0; all 1; cut 5; each 2", 2, "id");
        broken("take 5 of 0; all 1");
    }

    private static void shiftedQuestion() {
        working("a ? shifted is one");
        without("all 0; take 1 of 1; shift 1", 1, "????a");
        without("all 0; shift 25; shift 13", 1, "????");
    }

    private static void sortedQuestion() {
        working("sort of a row with a ? makes all ?");
        without("take 1 of 0, 1 of 1, 2 of 1; sort", 1, "???");
        without("take 1 of 1, 1 of 0, 2 of 1; sort", 1, "???");
        without("take 1 of 1, 2 of 1, 1 of 0; sort", 1, "???");
        without("all 1; all 0; cut 5; sort", 1, "aberz");
        without("take 1 of 0, 2 of 1; sort; all 1", 1, "??zebra");
        without("all 1; sort", 1, "aberz");
    }

    private static void follows() {
        working("FOLLOWS: WORDS of the BOOK of as many letters as the row has, alike where it has no ?.");
        Hand hand = house();
        String[] words = {"bird", "bard", "burn", "birds", "bir", "cord"};
        for (String word : words) {
            hand.book(word);
        }
        hand.working(3, "take 1 of 0, 1 of 1, 3 of 0, 4 of 0");
        CHECK.accepted("b?rd", hand.house, hand.house.follows(3, 2), 2);
        CHECK.accepted("????", hand.house, hand.house.follows(3, 3), 4);
        CHECK.accepted("bzrd", hand.house, hand.house.follows(3, 0), 0);
        hand.working(3, "back");
        CHECK.accepted("a row of no letters", hand.house, hand.house.follows(3, 0), 0);
        hand.working(3, "all 2; all 0");
        CHECK.accepted("a row longer than any word", hand.house, hand.house.follows(3, -1), 0);
    }
}

/** Term I, sentence by sentence: how much there may be of all, tokens, faults. */
public final class SentencesOfBoundsTest {
    private static final Check CHECK = new Check("SentencesOfBoundsTest");
    private static final String HEADING = "I.";

    public static void main(String[] args) {
        mostRiddles();
        rounds();
        mostTeams();
        mostWordsOfBook();
        mostBytesOfTape();
        lettersOfWords();
        smallLetters();
        mostHints();
        mostStates();
        mostActs();
        blanksPartTokens();
        blanksMeanNothingElse();
        lettersTogether();
        digitsTogether();
        firstFromTheLeft();
        leastOfOnePlace();
        byteThatBeginsNoToken();
        tokenWithWhichNoTextGoesOn();
        endOfText();
        unknownRiddles();
        unknownRiddlesOfWorkings();
        beyond();
        manyAtItsFirstToken();
        manyWhereItMayNotStand();
        CHECK.end();
    }

    private static void sentence(String words) {
        CHECK.sentence(HEADING, words);
    }

    /** So many riddles; the last of them is made of others (kind 1). */
    private static Hand hand(int riddles) {
        Hand hand = new Hand();
        for (int r = 0; r < riddles; r++) {
            hand.riddle(r == riddles - 1 ? 1 : 0, 0, "word");
        }
        return hand;
    }

    private static void fault(Hand hand, String what, boolean got, int fault, int place) {
        CHECK.refused(what, hand.house, got, 4);
        CHECK.due(what + ": fault", hand.house.fault(), fault);
        CHECK.due(what + ": where", hand.house.where(), place);
    }

    private static void mostRiddles() {
        sentence("RIDDLES 20");
        Hand hand = hand(19);
        CHECK.accepted("the 20th", hand.house, hand.riddle(0, 0, "word"), 19);
        CHECK.refused("the 21st", hand.house, hand.riddle(0, 0, "word"), 3);
        CHECK.due("there are", hand.house.count(0), 20);
        CHECK.due("the 20th is there", hand.house.about(19, 2), 4);
        CHECK.due("the 21st is not", hand.house.about(20, 2), -1);
    }

    private static void rounds() {
        sentence("of ROUNDS 0 .. 5");
        Hand hand = new Hand();
        CHECK.accepted("round 0", hand.house, hand.riddle(0, 0, "word"), 0);
        CHECK.accepted("round 5", hand.house, hand.riddle(0, 5, "word"), 1);
        int[] wrong = {-1, 6, Integer.MAX_VALUE, Integer.MIN_VALUE};
        for (int round : wrong) {
            hand.house.open(0, 0);
            CHECK.refused("round " + round, hand.house, hand.riddle(0, round, "word"), 2);
        }
        CHECK.due("told", hand.house.about(0, 1) * 10 + hand.house.about(1, 1), 5);
    }

    private static void mostTeams() {
        sentence("TEAMS 8");
        HuntHouse house = new HuntHouse();
        for (int t = 0; t < 7; t++) {
            house.team();
        }
        CHECK.accepted("the eighth", house, house.team(), 7);
        CHECK.refused("the ninth", house, house.team(), 3);
        CHECK.due("there are", house.count(1), 8);
        CHECK.due("the eighth is there", house.teamOf(7, 0), 0);
        CHECK.due("the ninth is not", house.teamOf(8, 0), -1);
    }

    private static void mostWordsOfBook() {
        sentence("a BOOK of 40 words");
        Hand hand = new Hand();
        for (int w = 0; w < 39; w++) {
            hand.book("word");
        }
        CHECK.accepted("the 40th", hand.house, hand.book("twelveletter"), 40);
        CHECK.refused("the 41st", hand.house, hand.book("word"), 3);
        CHECK.due("there are", hand.house.count(2), 40);
        hand.house.undo();
        CHECK.accepted("room again", hand.house, hand.book("word"), 40);
    }

    private static void mostBytesOfTape() {
        sentence("THE TAPE 300 bytes");
        HuntHouse house = new HuntHouse();
        for (int k = 1; k < 15; k++) {
            house.feed(0, 0, 0, 0, 0);
        }
        CHECK.due("there are", house.count(5), 280);
        CHECK.due("the 300th", house.feed(0, 0, 0, 0, 0), 300);
        CHECK.due("more", house.feed(0, 0, 0, 0, 0), -1);
        CHECK.due("there are", house.count(5), 300);
    }

    private static void lettersOfWords() {
        sentence("WORDS 1 to 12 small letters");
        Hand hand = new Hand();
        CHECK.accepted("a riddle of 1", hand.house, hand.riddle(0, 0, "a"), 0);
        CHECK.accepted("a riddle of 12", hand.house, hand.riddle(0, 0, "twelveletter"), 1);
        CHECK.accepted("a word of 1", hand.house, hand.book("z"), 1);
        CHECK.accepted("a word of 12", hand.house, hand.book("twelveletter"), 2);
        hand.house.open(0, 0);
        CHECK.refused("a riddle of none", hand.house, hand.riddle(0, 0, ""), 2);
        hand.house.open(0, 0);
        CHECK.refused("a riddle of 13", hand.house, hand.riddle(0, 0, "thirteensigns"), 2);
        hand.house.open(0, 0);
        CHECK.refused("a word of none", hand.house, hand.book(""), 2);
        hand.house.open(0, 0);
        CHECK.refused("a word of 13", hand.house, hand.book("thirteensigns"), 2);
        CHECK.due("letters", hand.house.about(0, 2) * 100 + hand.house.about(1, 2), 112);
    }

    private static void smallLetters() {
        sentence("small letters");
        Hand hand = new Hand();
        CHECK.accepted("the first and the last letter", hand.house, hand.riddle(0, 0, "az"), 0);
        String[] wrong = {"A", "aZ", "Za", "`", "a{", "a0", "a-", "\u00e1", "a\u00ff"};
        for (String word : wrong) {
            hand.house.open(0, 0);
            CHECK.refused("riddle '" + word + "'", hand.house, hand.riddle(0, 0, word), 2);
            hand.house.open(0, 0);
            CHECK.refused("word '" + word + "'", hand.house, hand.book(word), 2);
        }
    }

    private static void mostHints() {
        sentence("HINTS 3 of a RIDDLE");
        Hand hand = hand(2);
        hand.house.hint(0, 0, 0);
        hand.house.hint(0, 0, 0);
        CHECK.accepted("the third", hand.house, hand.house.hint(0, 0, 0), 3);
        CHECK.refused("the fourth", hand.house, hand.house.hint(0, 0, 0), 3);
        CHECK.due("there are", hand.house.about(0, 5), 3);
        CHECK.accepted("the first of another", hand.house, hand.house.hint(1, 0, 0), 1);
    }

    /** Nine free riddles are 512 states; a tenth comes with sets of them, ten more with the full one. */
    private static void mostStates() {
        sentence("states of a hunt 1,000");
        Hand hand = hand(20);
        hand.rule(10, "solved 10");
        for (int r = 11; r < 20; r++) {
            hand.rule(r, "riddle " + (r - 1));
        }
        String all = "solved 3 or riddle 0 and solved 2 or riddle 1 and (riddle 2 or riddle 3 or riddle 4 or riddle 5";
        CHECK.due("a rule", hand.rule(9, all + ")"), true);
        CHECK.accepted("just 1,000", hand.house, hand.house.states(0), 1000);
        CHECK.due("one set more", hand.rule(9, all + " or riddle 6)"), true);
        CHECK.refused("1,001", hand.house, hand.house.states(0), 10);
    }

    private static void mostActs() {
        sentence("the latest 100 acts can be taken back");
        HuntHouse house = new HuntHouse();
        for (int k = 0; k < 100; k++) {
            house.pass(1);
        }
        CHECK.due("a hundred", house.count(4), 100);
        house.pass(1);
        CHECK.due("a hundred still", house.count(4), 100);
        for (int k = 0; k < 100; k++) {
            CHECK.due("taken back", house.undo(), 1);
        }
        CHECK.due("no more", house.undo(), 0);
        CHECK.due("the first of 101 stays", house.count(3), 1);
    }

    private static void blanksPartTokens() {
        sentence("Blanks (32) part TOKENS of all texts");
        Hand hand = hand(2);
        CHECK.due("parted words", hand.form(0, "a b"), true);
        CHECK.due("they are two", hand.form(0, "[a b]") && hand.takes(0, "ba") == 1, true);
        CHECK.due("one word", hand.form(0, "[ab]") && hand.takes(0, "ba") == 0, true);
        fault(hand, "a name in two", hand.rule(0, "sol ved 1"), 1, 0);
        fault(hand, "a number in two", hand.rule(0, "solved 1 0"), 1, 9);
        CHECK.due("a number in one", hand.rule(0, "solved 10"), true);
        fault(hand, "a step in two", hand.working(1, "ba ck"), 1, 0);
        CHECK.refused("an answer in two", hand.house, hand.riddle(0, 0, "wo rd"), 2);
        hand.house.open(0, 0);
        CHECK.refused("a word in two", hand.house, hand.book("wo rd"), 2);
        fault(hand, "a tab is no blank", hand.form(0, "a\tb"), 1, 1);
        fault(hand, "nor is 0", hand.rule(0, "solved\u00001"), 1, 6);
        fault(hand, "nor is 160", hand.working(1, "\u00a0back"), 1, 0);
        fault(hand, "nor are 31 and 33", hand.form(0, "a\u001fb!"), 1, 1);
    }

    private static void blanksMeanNothingElse() {
        sentence("mean nothing else");
        Hand hand = hand(2);
        CHECK.due("a rule", hand.rule(0, "   (solved   1)and(not(  round 1  1  ))   "), true);
        CHECK.due("with none but where they part", hand.rule(0, "(solved1)and(not(round1 1))"), true);
        CHECK.due("a form", hand.form(0, "  ( a / b )  ?  [ c d ]  "), true);
        CHECK.due("it takes", hand.takes(0, "bdc"), 1);
        CHECK.due("a working", hand.working(1, "  take 1 of 0 , 2 of 0 ; shift  1  ;back "), true);
        CHECK.due("it makes", hand.house.make(1), 2);
        CHECK.accepted("an answer", hand.house, hand.riddle(0, 0, "  word "), 2);
        CHECK.accepted("a word", hand.house, hand.book("  word "), 1);
        CHECK.due("four letters", hand.house.about(2, 2), 4);
    }

    private static void lettersTogether() {
        sentence("letters that stand together are one");
        Hand hand = hand(2);
        CHECK.due("12 in a form", hand.form(0, "twelveletter"), true);
        fault(hand, "13 in a form", hand.form(0, "a/thirteensigns"), 1, 2);
        fault(hand, "13 in a [ ]", hand.form(0, "[a thirteensigns"), 1, 3);
        fault(hand, "joined names", hand.rule(0, "notsolved 1"), 1, 0);
        fault(hand, "a joined step", hand.working(1, "all 0;sortback"), 1, 6);
        CHECK.due("a digit parts them", hand.rule(0, "solved1and solved2"), true);
    }

    private static void digitsTogether() {
        sentence("digits too: WORDS of 1 to 12, NUMBERS of 1 to 3 digits");
        Hand hand = hand(2);
        CHECK.due("1 digit", hand.rule(0, "minute 9"), true);
        CHECK.due("3 digits", hand.rule(0, "minute 999"), true);
        CHECK.due("3 digits that are less", hand.rule(0, "solved 009"), true);
        fault(hand, "4 digits", hand.rule(0, "minute 1000"), 1, 7);
        fault(hand, "4 digits that are less", hand.rule(0, "minute 0009"), 1, 7);
        fault(hand, "4 digits of a working", hand.working(1, "back; shift 0001"), 1, 12);
        fault(hand, "many digits", hand.rule(0, "solved " + "4294967297".repeat(20)), 1, 7);
        CHECK.due("3 digits of a working", hand.working(1, "all 000; cut 024"), true);
        CHECK.accepted("they are 0 and 24", hand.house, hand.house.make(1), 4);
    }

    private static void firstFromTheLeft() {
        sentence("the first that is met from the left");
        Hand hand = hand(2);
        fault(hand, "2 ahead of 1", hand.rule(0, "riddle 2 $"), 2, 7);
        fault(hand, "1 ahead of 2", hand.rule(0, "$ riddle 2"), 1, 0);
        fault(hand, "3 ahead of 2", hand.working(1, "take 13 of 1"), 3, 5);
        fault(hand, "2 ahead of 3", hand.working(1, "all 1; cut 25"), 2, 4);
        fault(hand, "4 ahead of 1", hand.form(0, "[a b c d e $"), 4, 9);
        fault(hand, "1 ahead of 4", hand.form(0, "a?? [b c d e f]"), 1, 2);
    }

    private static void leastOfOnePlace() {
        sentence("of one place the least number");
        Hand hand = hand(2);
        String twelve = "take 1 of 0" + ",1 of 0".repeat(11);
        fault(hand, "a 13th of a take, in bounds", hand.working(1, twelve + ",1 of 0"), 4, 89);
        fault(hand, "a 13th of a take, beyond", hand.working(1, twelve + ",13 of 0"), 3, 89);
        fault(hand, "a 13th of a take, no number", hand.working(1, twelve + ",back"), 1, 89);
        fault(hand, "unknown, and beyond all", hand.rule(0, "riddle 999"), 2, 7);
    }

    private static void byteThatBeginsNoToken() {
        sentence("the first byte that begins no TOKEN");
        Hand hand = hand(2);
        int[] none = {0, 9, 10, 13, '!', '#', '$', '"', '-', '.', ':', 'A', 'Z', '@', '^', '_', '`', '{', '|', 127, 128, 160, 255};
        for (int sign : none) {
            String text = "" + (char) sign;
            fault(hand, "sign " + sign + " of a rule", hand.rule(0, "solved 1" + text), 1, 8);
            fault(hand, "sign " + sign + " of a form", hand.form(0, "a " + text), 1, 2);
            fault(hand, "sign " + sign + " of a working", hand.working(1, "back " + text), 1, 5);
        }
    }

    private static void tokenWithWhichNoTextGoesOn() {
        sentence("or TOKEN with which no text goes on");
        Hand hand = hand(2);
        fault(hand, "a form's sign in a rule", hand.rule(0, "solved 1 / solved 2"), 1, 9);
        fault(hand, "a rule's word for a fact", hand.rule(0, "and solved 1"), 1, 0);
        fault(hand, "a fact right behind another", hand.rule(0, "solved 1 solved 2"), 1, 9);
        fault(hand, "a ) too many", hand.rule(0, "(solved 1))"), 1, 10);
        fault(hand, "a ( with nothing in it", hand.form(0, "a()"), 1, 2);
        fault(hand, "a number in a form", hand.form(0, "a 1"), 1, 2);
        fault(hand, "a ? behind a ]", hand.form(0, "[a]?"), 1, 3);
        fault(hand, "a ? behind a ?", hand.form(0, "a??"), 1, 2);
        fault(hand, "a number behind back", hand.working(1, "back 1"), 1, 5);
        fault(hand, "a word for a number", hand.working(1, "take one of 0"), 1, 5);
        fault(hand, "a wrong first letter", hand.working(1, "fake 1 of 0"), 1, 0);
        fault(hand, "a wrong last letter", hand.working(1, "bach"), 1, 0);
        String[] names = {"xolved 1", "xiddle 0", "xound 0 0", "xinute 1", "xot solved 1", "solvex 1", "solve 1"};
        for (String text : names) {
            fault(hand, "'" + text + "'", hand.rule(0, text), 1, 0);
        }
        String[] joins = {"solved 1 xr solved 1", "solved 1 xnd solved 1", "solved 1 o solved 1", "solved 1 ands solved 1"};
        for (String text : joins) {
            fault(hand, "'" + text + "'", hand.rule(0, text), 1, 9);
        }
        String[] steps = {"xll 0", "xhift 1", "xack", "xort", "xut 1", "xach 1", "al 0", "alll 0"};
        for (String text : steps) {
            fault(hand, "'" + text + "'", hand.working(1, text), 1, 0);
        }
        fault(hand, "'xf' for 'of'", hand.working(1, "take 1 xf 0"), 1, 7);
    }

    private static void endOfText() {
        sentence("(the end: its place)");
        Hand hand = hand(2);
        fault(hand, "nothing for a rule", hand.rule(0, ""), 1, 0);
        fault(hand, "nothing for a form", hand.form(0, ""), 1, 0);
        fault(hand, "nothing for a working", hand.working(1, ""), 1, 0);
        fault(hand, "a blank", hand.rule(0, " "), 1, 1);
        fault(hand, "a fact without its number", hand.rule(0, "solved"), 1, 6);
        fault(hand, "nothing behind or", hand.rule(0, "solved 1 or"), 1, 11);
        fault(hand, "a ( that stays open", hand.form(0, "(a"), 1, 2);
        fault(hand, "a [ that stays open", hand.form(0, "[a"), 1, 2);
        fault(hand, "nothing behind /", hand.form(0, "a/"), 1, 2);
        fault(hand, "nothing behind ;", hand.working(1, "back;"), 1, 5);
        fault(hand, "nothing behind ,", hand.working(1, "take 1 of 0,"), 1, 12);
        fault(hand, "the end of 300 bytes", hand.form(0, "(" + " ".repeat(298) + "a"), 1, 300);
        hand.feed("solved 1");
        fault(hand, "the first n bytes alone", hand.house.rule(0, 7), 1, 7);
    }

    private static void unknownRiddles() {
        sentence("2 UNKNOWN: a NUMBER of a RIDDLE that there isn't");
        Hand hand = hand(2);
        CHECK.due("the last there is", hand.rule(0, "riddle 1"), true);
        CHECK.due("the own one", hand.rule(0, "riddle 0"), true);
        fault(hand, "the first there isn't", hand.rule(0, "riddle 2"), 2, 7);
        fault(hand, "at it", hand.rule(0, "solved 1 or not riddle  999"), 2, 24);
        hand.house.undo();
        hand.house.undo();
        hand.house.undo();
        fault(hand, "one that was taken back", hand.rule(0, "riddle 1"), 2, 7);
        Hand full = hand(20);
        CHECK.due("the 20th", full.rule(0, "riddle 19"), true);
        fault(full, "the 21st", full.rule(0, "riddle 20"), 2, 7);
    }

    private static void unknownRiddlesOfWorkings() {
        sentence("(in IV: that isn't less than the own one), at it");
        Hand hand = hand(4);
        hand.riddle(2, 0, "last");
        CHECK.due("the one before", hand.working(3, "all 2"), true);
        fault(hand, "the own one", hand.working(3, "all 3"), 2, 4);
        fault(hand, "a later one", hand.working(3, "take 1 of 2, 1 of 4"), 2, 18);
        fault(hand, "the own one of a take", hand.working(3, "take 1 of 3"), 2, 10);
        CHECK.due("the one before the last", hand.working(4, "take 1 of 3"), true);
        Hand first = hand(1);
        fault(first, "none is less than the first", first.working(0, "all 0"), 2, 4);
    }

    private static void beyond() {
        sentence("3 a NUMBER beyond what it may be, at it.");
        Hand hand = hand(2);
        fault(hand, "solved", hand.rule(0, "solved  21"), 3, 8);
        fault(hand, "a round", hand.rule(0, "round 6 0"), 3, 6);
        fault(hand, "of a round", hand.rule(0, "round 0 21"), 3, 8);
        fault(hand, "a place", hand.working(1, "take 0 of 0"), 3, 5);
        fault(hand, "a shift", hand.working(1, "back;shift 26"), 3, 11);
        fault(hand, "a cut", hand.working(1, "cut 25"), 3, 4);
        fault(hand, "each", hand.working(1, "each 0"), 3, 5);
        fault(hand, "999", hand.rule(0, "solved 999"), 3, 7);
    }

    private static void manyAtItsFirstToken() {
        sentence("4 MANY, at the first TOKEN of what is too much");
        Hand hand = hand(2);
        fault(hand, "a (", hand.rule(0, "( ( ( ( ( ( ( ( ( solved 1"), 4, 16);
        fault(hand, "a not", hand.rule(0, "not not not not not not not not  not solved 1"), 4, 33);
        fault(hand, "a word", hand.form(0, "a/".repeat(40) + " b?"), 4, 81);
        fault(hand, "a word of [ ]", hand.form(0, "[a b c d  e]"), 4, 10);
        fault(hand, "a step, not its ;", hand.working(1, "back;".repeat(12) + " take 1 of 0"), 4, 61);
        fault(hand, "of a take, not its ,", hand.working(1, "take 1 of 0" + ",1 of 0".repeat(11) + ", 1 of 0"), 4, 90);
    }

    private static void manyWhereItMayNotStand() {
        sentence("if it may stand there (else 1)");
        Hand hand = hand(2);
        fault(hand, "a ninth ( behind a fact", hand.rule(0, "(".repeat(8) + "solved 1("), 1, 16);
        fault(hand, "a ninth not behind a fact", hand.rule(0, "not ".repeat(8) + "solved 1 not"), 1, 41);
        fault(hand, "a ninth ( in a [ ]", hand.form(0, "(".repeat(8) + "[("), 1, 9);
        fault(hand, "a 41st word that is none", hand.form(0, "a ".repeat(40) + "1"), 1, 80);
        fault(hand, "a fifth of [ ] that is none", hand.form(0, "[a b c d E]"), 1, 9);
        fault(hand, "a 13th step that is none", hand.working(1, "back;".repeat(12) + "beck"), 1, 60);
        fault(hand, "a 13th step without its ;", hand.working(1, "back;".repeat(11) + "back back"), 1, 60);
        fault(hand, "a 13th of a take without its ,",
            hand.working(1, "take 1 of 0" + ",1 of 0".repeat(11) + " 1 of 0"), 1, 89);
    }
}

/** Terms V to VIII, sentence by sentence: the hunt, ranks, states, trouble. */
public final class SentencesOfHuntTest {
    private static final Check CHECK = new Check("SentencesOfHuntTest");

    public static void main(String[] args) {
        hunt();
        ranks();
        states();
        trouble();
        CHECK.end();
    }

    /** So many riddles "a", "b", ..., the last of them the last one; so many teams. */
    private static Hand hand(int riddles, int teams) {
        Hand hand = new Hand();
        for (int r = 0; r < riddles; r++) {
            hand.riddle(r == riddles - 1 ? 2 : 0, 0, letter(r));
        }
        for (int t = 0; t < teams; t++) {
            hand.house.team();
        }
        return hand;
    }

    private static String letter(int number) {
        return String.valueOf((char) ('a' + number));
    }

    private static void solve(Hand hand, int team, int riddle) {
        CHECK.accepted("team " + team + " solves " + riddle, hand.house, hand.guess(team, riddle, letter(riddle)), 1);
    }

    private static void pass(Hand hand, int minutes) {
        for (int left = minutes; left > 0; left -= 1000) {
            hand.house.pass(Math.min(left, 1000));
        }
    }

    // ---- V

    private static void hunt() {
        minutes();
        kinds();
        lettersOfGuesses();
        near();
        slack();
        lock();
        wrongGuesses();
        stuck();
        stuckFromStart();
        hintsInOrder();
        hintsWhenStuck();
    }

    private static void term(String words) {
        CHECK.sentence("V.", words);
    }

    private static void minutes() {
        term("MINUTES go from 0 to 9,999.");
        HuntHouse house = new HuntHouse();
        CHECK.due("the first", house.count(3), 0);
        for (int k = 0; k < 9; k++) {
            house.pass(1000);
        }
        CHECK.refused("to 10,000", house, house.pass(1000), 2);
        CHECK.accepted("to 9,999", house, house.pass(999), 9999);
        CHECK.refused("a minute more", house, house.pass(1), 2);
        CHECK.due("the last", house.count(3), 9999);
        CHECK.accepted("a team may begin then", house, house.team(), 0);
        CHECK.due("its start", house.teamOf(0, 0), 9999);
    }

    private static void kinds() {
        term("RIDDLES have KINDS: 0 plain, 1 made, 2 the last one (at most one).");
        Hand hand = new Hand();
        for (int kind = 0; kind <= 2; kind++) {
            CHECK.accepted("kind " + kind, hand.house, hand.riddle(kind, 0, "a"), kind);
            CHECK.due("told", hand.house.about(kind, 0), kind);
        }
        CHECK.refused("a second last one", hand.house, hand.riddle(2, 0, "a"), 9);
        CHECK.accepted("a second made one", hand.house, hand.riddle(1, 0, "a"), 3);
        int[] wrong = {-1, 3, Integer.MAX_VALUE, Integer.MIN_VALUE};
        for (int kind : wrong) {
            hand.house.states(0);
            CHECK.refused("kind " + kind, hand.house, hand.riddle(kind, 0, "a"), 2);
        }
        Hand other = hand(3, 0);
        other.house.undo();
        CHECK.accepted("the last one taken back may come again", other.house, other.riddle(2, 0, "a"), 2);
    }

    private static void lettersOfGuesses() {
        term("small letters and great ones (as small) count, all others are left out");
        Hand hand = new Hand();
        hand.riddle(0, 0, "azmb");
        String[] right = {"azmb", "AZMB", "aZMb", " a z m b ", "@A[Z`m{b", "0a1z2m3b9", "a\u0000z\u00c1m\u00e1b\u00ff"};
        for (String guess : right) {
            CHECK.accepted("'" + guess + "'", hand.house, hand.takes(0, guess), 1);
            CHECK.accepted("steps of '" + guess + "'", hand.house, hand.steps(0, guess), 0);
        }
        CHECK.due("others alone are no letters", hand.steps(0, "@[`{ 19\u00e9"), 4);
    }

    private static void near() {
        term("NEAR: the least number of letters put in, left out or changed by which it is the ANSWER"
            + " is at most the RIDDLE's SLACK");
        Hand hand = new Hand();
        hand.riddle(0, 0, "bird");
        hand.house.patience(0, 1, 0);
        String[] one = {"ird", "brd", "bir", "abird", "birad", "birda", "aird", "bard", "bira"};
        for (String guess : one) {
            CHECK.accepted("steps of " + guess, hand.house, hand.steps(0, guess), 1);
            CHECK.accepted(guess + " is near", hand.house, hand.takes(0, guess), 2);
        }
        String[] two = {"brid", "bi", "birdie", "ibrd", "bare"};
        for (String guess : two) {
            CHECK.accepted("steps of " + guess, hand.house, hand.steps(0, guess), 2);
            CHECK.accepted(guess + " is not", hand.house, hand.takes(0, guess), 0);
        }
        hand.form(0, "crow");
        CHECK.due("the answer itself, where a form takes another", hand.takes(0, "bird"), 2);
    }

    private static void slack() {
        term("SLACK (0 .. 3; 0 at first)");
        Hand hand = new Hand();
        hand.riddle(0, 0, "bird");
        CHECK.due("at first", hand.house.about(0, 3), 0);
        CHECK.due("0: one step is too far", hand.takes(0, "birds"), 0);
        String[] guesses = {"bird", "birds", "birdsa", "birdsab", "birdsabc"};
        for (int slack = 0; slack <= 3; slack++) {
            CHECK.due("slack " + slack, hand.house.patience(0, slack, 0), true);
            CHECK.due("told", hand.house.about(0, 3), slack);
            for (int steps = 1; steps <= 4; steps++) {
                CHECK.due(steps + " steps with " + slack, hand.takes(0, guesses[steps]), steps <= slack ? 2 : 0);
            }
        }
        CHECK.refused("-1", hand.house, hand.house.patience(0, -1, 0), 2);
        hand.house.open(0, 0);
        CHECK.refused("4", hand.house, hand.house.patience(0, 4, 0), 2);
        CHECK.due("it stays", hand.house.about(0, 3), 3);
    }

    private static void lock() {
        term("the TEAM waits LOCK minutes (0 .. 60; 0 at first) for that one");
        Hand hand = hand(2, 2);
        CHECK.due("at first", hand.house.about(0, 4), 0);
        hand.guess(0, 0, "x");
        CHECK.due("without one a second guess at once", hand.guess(0, 0, "x"), 0);
        CHECK.refused("-1", hand.house, hand.house.patience(0, 0, -1), 2);
        hand.house.open(-1, 0);
        CHECK.refused("61", hand.house, hand.house.patience(0, 0, 61), 2);
        CHECK.due("60", hand.house.patience(0, 0, 60), true);
        hand.guess(0, 0, "x");
        CHECK.due("to", hand.house.told(0, 0, 3), 60);
        CHECK.refused("at once", hand.house, hand.guess(0, 0, "a"), 7);
        solve(hand, 0, 1);
        solve(hand, 1, 0);
        pass(hand, 59);
        CHECK.refused("a minute too soon", hand.house, hand.guess(0, 0, "a"), 7);
        pass(hand, 1);
        solve(hand, 0, 0);
    }

    private static void wrongGuesses() {
        term("Behind a wrong GUESS (near or not) of a RIDDLE");
        Hand hand = new Hand();
        hand.riddle(0, 0, "bird");
        hand.house.patience(0, 1, 2);
        hand.house.team();
        CHECK.accepted("near", hand.house, hand.guess(0, 0, "birds"), 2);
        CHECK.due("is a wrong one", hand.house.teamOf(0, 5), 1);
        CHECK.refused("and waits", hand.house, hand.guess(0, 0, "bird"), 7);
        pass(hand, 2);
        CHECK.accepted("wrong", hand.house, hand.guess(0, 0, ""), 0);
        CHECK.due("is one", hand.house.teamOf(0, 5), 2);
        CHECK.refused("and waits", hand.house, hand.guess(0, 0, "bird"), 7);
        CHECK.due("a refused one is none", hand.house.teamOf(0, 5), 2);
        pass(hand, 2);
        CHECK.accepted("right", hand.house, hand.guess(0, 0, "bird"), 1);
        CHECK.due("is no wrong one", hand.house.teamOf(0, 5), 2);
        CHECK.due("nor waits", hand.house.told(0, 0, 3), 4);
    }

    private static void stuck() {
        term("STUCK: the MINUTE less that of the TEAM's latest right GUESS");
        Hand hand = hand(3, 2);
        pass(hand, 10);
        CHECK.due("before", hand.house.teamOf(0, 3), 10);
        solve(hand, 0, 0);
        CHECK.due("right then", hand.house.teamOf(0, 3), 0);
        pass(hand, 5);
        hand.guess(0, 1, "x");
        CHECK.due("a wrong one is not it", hand.house.teamOf(0, 3), 5);
        CHECK.due("nor another team's", hand.house.teamOf(1, 3), 15);
        solve(hand, 0, 2);
        pass(hand, 1);
        CHECK.due("the latest", hand.house.teamOf(0, 3), 1);
    }

    private static void stuckFromStart() {
        term("(or of its START)");
        Hand hand = hand(1, 0);
        pass(hand, 7);
        hand.house.team();
        CHECK.due("at its start", hand.house.teamOf(0, 3), 0);
        pass(hand, 3);
        CHECK.due("later", hand.house.teamOf(0, 3), 3);
    }

    private static void hintsInOrder() {
        term("HINTS of a RIDDLE, in order: each for a PRICE");
        Hand hand = hand(1, 1);
        CHECK.refused("none is there", hand.house, hand.house.buy(0, 0), 8);
        hand.house.hint(0, 2, 100);
        hand.house.hint(0, 1, 20);
        hand.house.hint(0, 0, 3);
        CHECK.refused("the third might be, the first not yet", hand.house, hand.house.buy(0, 0), 8);
        pass(hand, 2);
        int[] prices = {100, 120, 123};
        for (int h = 0; h < 3; h++) {
            CHECK.accepted("hint " + h, hand.house, hand.house.buy(0, 0), h);
            CHECK.due("prices", hand.house.teamOf(0, 4), prices[h]);
        }
        CHECK.refused("all are bought", hand.house, hand.house.buy(0, 0), 8);
        CHECK.due("prices", hand.house.teamOf(0, 4), 123);
    }

    private static void hintsWhenStuck() {
        term("when STUCK is at least its MINUTES");
        Hand hand = hand(2, 1);
        hand.house.hint(0, 5, 1);
        hand.house.hint(0, 999, 1);
        pass(hand, 4);
        CHECK.refused("a minute too soon", hand.house, hand.house.buy(0, 0), 8);
        pass(hand, 1);
        CHECK.accepted("just then", hand.house, hand.house.buy(0, 0), 0);
        pass(hand, 994);
        solve(hand, 0, 1);
        CHECK.refused("stuck no more", hand.house, hand.house.buy(0, 0), 8);
        pass(hand, 998);
        CHECK.refused("998", hand.house, hand.house.buy(0, 0), 8);
        pass(hand, 1);
        CHECK.accepted("999", hand.house, hand.house.buy(0, 0), 1);
    }

    // ---- VI

    private static void ranks() {
        lastOneFirst();
        moreFirst();
        byMark();
        markWithoutGuess();
        pricesOfMark();
        byNumbers();
    }

    private static void rankTerm(String words) {
        CHECK.sentence("VI.", words);
    }

    private static void rank(Hand hand, int minute, int... teams) {
        for (int i = 0; i < teams.length; i++) {
            CHECK.due("rank " + i + " at " + minute, hand.house.rank(i, minute), teams[i]);
        }
        CHECK.due("no more at " + minute, hand.house.rank(teams.length, minute), -1);
    }

    private static void lastOneFirst() {
        rankTerm("TEAMS that had solved the last one first");
        Hand hand = hand(20, 2);
        for (int r = 0; r < 19; r++) {
            solve(hand, 0, r);
        }
        rank(hand, 0, 0, 1);
        pass(hand, 1000);
        solve(hand, 1, 19);
        rank(hand, 1000, 1, 0);
        rank(hand, 999, 0, 1);
        solve(hand, 0, 19);
        rank(hand, 1000, 0, 1);
        Hand dear = hand(2, 2);
        dear.house.hint(0, 0, 999);
        dear.house.buy(1, 0);
        solve(dear, 0, 0);
        solve(dear, 1, 1);
        rank(dear, 0, 1, 0);
    }

    private static void moreFirst() {
        rankTerm("then by how many were solved, more first");
        Hand hand = hand(4, 3);
        solve(hand, 0, 0);
        pass(hand, 1000);
        solve(hand, 2, 1);
        solve(hand, 2, 2);
        rank(hand, 1000, 2, 0, 1);
        rank(hand, 999, 0, 1, 2);
        solve(hand, 1, 0);
        solve(hand, 1, 1);
        solve(hand, 1, 2);
        rank(hand, 1000, 1, 2, 0);
    }

    private static void byMark() {
        rankTerm("then by MARK: the MINUTE of the latest right GUESS");
        Hand hand = hand(3, 3);
        solve(hand, 0, 0);
        pass(hand, 4);
        solve(hand, 2, 0);
        solve(hand, 2, 1);
        pass(hand, 1);
        solve(hand, 0, 1);
        solve(hand, 1, 0);
        pass(hand, 1);
        solve(hand, 1, 1);
        rank(hand, 6, 2, 0, 1);
        int[] marks = {5, 6, 4};
        for (int t = 0; t < 3; t++) {
            CHECK.due("mark of " + t, hand.house.teamOf(t, 2), marks[t]);
        }
        Hand eight = hand(2, 8);
        solve(eight, 7, 0);
        pass(eight, 1);
        for (int t = 0; t < 7; t++) {
            solve(eight, t, 0);
        }
        rank(eight, 1, 7, 0, 1, 2, 3, 4, 5, 6);
    }

    private static void markWithoutGuess() {
        rankTerm("(START without one)");
        Hand hand = hand(1, 0);
        pass(hand, 3);
        hand.house.team();
        pass(hand, 4);
        hand.house.team();
        CHECK.due("mark of 0", hand.house.teamOf(0, 2), 3);
        CHECK.due("mark of 1", hand.house.teamOf(1, 2), 7);
        hand.guess(0, 0, "x");
        pass(hand, 1);
        CHECK.due("a wrong one is not it", hand.house.teamOf(0, 2), 3);
        rank(hand, 8, 0, 1);
    }

    private static void pricesOfMark() {
        rankTerm("and the PRICES paid up to then");
        Hand hand = hand(2, 3);
        hand.house.hint(0, 0, 10);
        hand.house.hint(0, 0, 999);
        pass(hand, 5);
        hand.house.buy(0, 0);
        pass(hand, 1);
        hand.house.buy(1, 0);
        hand.house.buy(1, 0);
        CHECK.due("mark of 0", hand.house.teamOf(0, 2), 10);
        CHECK.due("mark of 1", hand.house.teamOf(1, 2), 1009);
        rank(hand, 4, 0, 1, 2);
        rank(hand, 5, 1, 2, 0);
        rank(hand, 6, 2, 0, 1);
        solve(hand, 0, 1);
        CHECK.due("the latest right guess and the prices", hand.house.teamOf(0, 2), 16);
    }

    private static void byNumbers() {
        rankTerm("then by numbers");
        Hand hand = hand(2, 8);
        hand.house.hint(0, 0, 1);
        rank(hand, 0, 0, 1, 2, 3, 4, 5, 6, 7);
        hand.house.buy(0, 0);
        pass(hand, 1);
        for (int t = 7; t > 0; t--) {
            solve(hand, t, 1);
        }
        rank(hand, 1, 1, 2, 3, 4, 5, 6, 7, 0);
    }

    // ---- VII

    private static void states() {
        fromNoneOn();
        minuteTold();
        asAMapIsMet();
        teamsAreOfNoMatter();
    }

    private static void stateTerm(String words) {
        CHECK.sentence("VII.", words);
    }

    private static void fromNoneOn() {
        stateTerm("from none on, any RIDDLE that is OPEN and not in it is solved");
        HuntHouse none = new HuntHouse();
        CHECK.accepted("no riddles", none, none.states(0), 1);
        Hand hand = hand(3, 0);
        CHECK.accepted("all sets of three", hand.house, hand.house.states(0), 8);
        hand.rule(0, "riddle 0");
        CHECK.due("one that only itself opens", hand.house.states(0), 4);
        hand.rule(0, "riddle 1");
        CHECK.due("one behind another", hand.house.states(0), 6);
        hand.rule(1, "not riddle 0 and not riddle 2");
        CHECK.due("one that others shut", hand.house.states(0), 6);
    }

    private static void minuteTold() {
        stateTerm("sets of solved RIDDLES, with the MINUTE told");
        Hand hand = hand(2, 0);
        hand.rule(0, "minute 100");
        hand.rule(1, "not minute 200");
        pass(hand, 150);
        CHECK.due("at 0", hand.house.states(0), 2);
        CHECK.due("at 99", hand.house.states(99), 2);
        CHECK.due("at 100", hand.house.states(100), 4);
        CHECK.due("at 199", hand.house.states(199), 4);
        CHECK.due("at 200", hand.house.states(200), 2);
        CHECK.due("at 9,999", hand.house.states(9999), 2);
    }

    private static void asAMapIsMet() {
        stateTerm("met as a map is: the first state first, RIDDLES by numbers");
        Hand hand = hand(5, 0);
        hand.rule(4, "not (riddle 0 and riddle 1 and riddle 2) and not (riddle 1 and riddle 3)");
        CHECK.due("smaller ones first", hand.house.shut(0), 10);
        hand.rule(4, "not (riddle 1 and riddle 2) and not (riddle 0 and riddle 3)");
        CHECK.due("from 0 on ahead of from 1 on", hand.house.shut(0), 9);
        hand.rule(4, "not (riddle 0 and riddle 2) and not (riddle 0 and riddle 1)");
        CHECK.due("from 0 to 1 ahead of to 2", hand.house.shut(0), 3);
        hand.rule(0, "riddle 3");
        hand.rule(4, "not (riddle 0 and riddle 3) and not (riddle 1 and riddle 2)");
        CHECK.due("the state of 1 ahead of that of 3", hand.house.shut(0), 6);
    }

    private static void teamsAreOfNoMatter() {
        stateTerm("(Teams are of no matter.)");
        Hand hand = hand(3, 1);
        hand.rule(2, "riddle 0 and riddle 1");
        solve(hand, 0, 0);
        solve(hand, 0, 1);
        CHECK.due("states", hand.house.states(0), 5);
        CHECK.due("shortest", hand.house.shortest(0), 2);
        hand.rule(0, "not solved 0");
        CHECK.due("dead, though a team has solved it", hand.house.dead(0), 5);
    }

    // ---- VIII

    private static void trouble() {
        itWasnt();
        noneSuch();
        numberOrNoWord();
        noRoom();
        faulty();
        notOpen();
        solved();
        waits();
        noHint();
        otherKind();
        manyStates();
    }

    private static void troubleTerm(String words) {
        CHECK.sentence("VIII.", words);
    }

    private static void itWasnt() {
        troubleTerm("TROUBLE of the latest call that may be refused: 0 it wasn't");
        HuntHouse house = new HuntHouse();
        CHECK.due("new", house.trouble(), 0);
        house.pass(0);
        CHECK.due("refused", house.trouble(), 2);
        house.count(9);
        house.undo();
        house.fault();
        house.where();
        house.trouble();
        CHECK.due("these are not refused", house.trouble(), 2);
        house.pass(1);
        CHECK.due("accepted", house.trouble(), 0);
    }

    private static void noneSuch() {
        troubleTerm("1 there is none such");
        Hand hand = hand(2, 1);
        HuntHouse house = hand.house;
        hand.feed("a");
        int[] none = {2, -1, 20, Integer.MAX_VALUE, Integer.MIN_VALUE};
        for (int riddle : none) {
            for (int call = 0; call < 15; call++) {
                house.pass(0);
                int got = call < 3 ? (byRiddle(house, riddle, call) ? 1 : -1) : ofRiddle(house, riddle, call);
                CHECK.refused("call " + call + " of riddle " + riddle, house, got, 1);
            }
        }
        int[] noTeam = {1, -1, 8, Integer.MAX_VALUE, Integer.MIN_VALUE};
        for (int team : noTeam) {
            house.pass(0);
            CHECK.refused("open of team " + team, house, house.open(team, 0), 1);
            house.pass(0);
            CHECK.refused("guess of team " + team, house, house.guess(team, 0, 1), 1);
            house.pass(0);
            CHECK.refused("buy of team " + team, house, house.buy(team, 0), 1);
        }
        CHECK.due("the tape stays", house.count(5), 20);
    }

    private static boolean byRiddle(HuntHouse house, int riddle, int call) {
        return call == 0 ? house.rule(riddle, 1) : call == 1 ? house.form(riddle, 1) : house.working(riddle, 1);
    }

    private static int ofRiddle(HuntHouse house, int riddle, int call) {
        return switch (call) {
            case 3 -> house.patience(riddle, 0, 0) ? 1 : -1;
            case 4 -> house.hint(riddle, 0, 0);
            case 5 -> house.takes(riddle, 1);
            case 6 -> house.steps(riddle, 1);
            case 7 -> house.make(riddle);
            case 8 -> house.fits(riddle);
            case 9 -> house.without(riddle, 0);
            case 10 -> house.follows(riddle, 0);
            case 11 -> house.open(0, riddle);
            case 12 -> house.guess(0, riddle, 1);
            case 13 -> house.buy(0, riddle);
            default -> house.open(riddle, riddle);
        };
    }

    private static void numberOrNoWord() {
        troubleTerm("2 a number, or no word");
        Hand hand = hand(2, 1);
        CHECK.refused("a number", hand.house, hand.house.pass(-5), 2);
        hand.house.open(9, 9);
        CHECK.refused("no word", hand.house, hand.book("Word"), 2);
        hand.house.open(9, 9);
        CHECK.refused("no word", hand.house, hand.riddle(0, 0, "7"), 2);
    }

    private static void noRoom() {
        troubleTerm("3 no room");
        Hand hand = hand(20, 8);
        CHECK.refused("a riddle", hand.house, hand.riddle(0, 0, "a"), 3);
        hand.house.open(9, 9);
        CHECK.refused("a team", hand.house, hand.house.team(), 3);
        for (int k = 0; k < 3; k++) {
            hand.house.hint(0, 0, 0);
        }
        CHECK.refused("a hint", hand.house, hand.house.hint(0, 0, 0), 3);
        for (int k = 0; k < 40; k++) {
            hand.book("a");
        }
        CHECK.refused("a word", hand.house, hand.book("a"), 3);
    }

    private static void faulty() {
        troubleTerm("4 a FAULT");
        Hand hand = hand(2, 1);
        CHECK.refused("a rule", hand.house, hand.rule(0, "?"), 4);
        hand.house.open(9, 9);
        CHECK.refused("a form", hand.house, hand.form(0, "?"), 4);
        hand.house.open(9, 9);
        CHECK.refused("a working", hand.house, hand.working(1, "?"), 4);
    }

    private static void notOpen() {
        troubleTerm("5 it isn't OPEN");
        Hand hand = hand(2, 1);
        hand.house.hint(1, 0, 0);
        hand.rule(1, "riddle 0");
        CHECK.refused("a guess", hand.house, hand.guess(0, 1, "b"), 5);
        CHECK.refused("a hint", hand.house, hand.house.buy(0, 1), 5);
        solve(hand, 0, 0);
        CHECK.accepted("a hint of an open one", hand.house, hand.house.buy(0, 1), 0);
        solve(hand, 0, 1);
    }

    private static void solved() {
        troubleTerm("6 it is solved");
        Hand hand = hand(2, 2);
        hand.house.hint(0, 0, 0);
        solve(hand, 0, 0);
        CHECK.refused("a guess", hand.house, hand.guess(0, 0, "a"), 6);
        CHECK.refused("a wrong guess", hand.house, hand.guess(0, 0, "x"), 6);
        CHECK.refused("a hint", hand.house, hand.house.buy(0, 0), 6);
        CHECK.accepted("not for the other team", hand.house, hand.house.buy(1, 0), 0);
        solve(hand, 1, 0);
    }

    private static void waits() {
        troubleTerm("7 it waits");
        Hand hand = hand(1, 1);
        hand.house.patience(0, 0, 1);
        hand.house.hint(0, 0, 0);
        hand.guess(0, 0, "x");
        CHECK.refused("a guess", hand.house, hand.guess(0, 0, "a"), 7);
        CHECK.accepted("a hint may be bought", hand.house, hand.house.buy(0, 0), 0);
        pass(hand, 1);
        solve(hand, 0, 0);
    }

    private static void noHint() {
        troubleTerm("8 no HINT (yet)");
        Hand hand = hand(1, 1);
        CHECK.refused("none", hand.house, hand.house.buy(0, 0), 8);
        hand.house.hint(0, 1, 0);
        CHECK.refused("not yet", hand.house, hand.house.buy(0, 0), 8);
        pass(hand, 1);
        CHECK.accepted("now", hand.house, hand.house.buy(0, 0), 0);
        CHECK.refused("no more", hand.house, hand.house.buy(0, 0), 8);
    }

    private static void otherKind() {
        troubleTerm("9 another kind, or BROKEN");
        Hand hand = hand(2, 0);
        CHECK.refused("a plain one's working", hand.house, hand.working(0, "back"), 9);
        hand.house.open(9, 9);
        CHECK.refused("a second last one", hand.house, hand.riddle(2, 0, "a"), 9);
        hand.working(1, "take 2 of 0");
        CHECK.refused("broken", hand.house, hand.house.make(1), 9);
        HuntHouse none = new HuntHouse();
        CHECK.refused("no last one: shut", none, none.shut(0), 9);
        none.open(9, 9);
        CHECK.refused("no last one: shortest", none, none.shortest(0), 9);
    }

    private static void manyStates() {
        troubleTerm("10 more than 1,000 states");
        Hand hand = hand(10, 0);
        HuntHouse house = hand.house;
        CHECK.refused("states", house, house.states(0), 10);
        house.open(9, 9);
        CHECK.refused("shut", house, house.shut(0), 10);
        house.open(9, 9);
        CHECK.refused("shortest", house, house.shortest(0), 10);
        house.open(9, 9);
        CHECK.refused("dead", house, house.dead(0), 10);
        house.undo();
        CHECK.accepted("512", house, house.states(0), 512);
    }
}

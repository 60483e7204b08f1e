/** Promises 4 to 6, 9, 10: texts that are read, and the fault and place of those that are not. */
public final class FaultsTest {
    private static final Check CHECK = new Check("FaultsTest");

    public static void main(String[] args) {
        rules();
        manyOfRules();
        forms();
        manyOfForms();
        workings();
        manyOfWorkings();
        refusals();
        faultAndWhere();
        CHECK.end();
    }

    /** Riddles 0 and 1 are plain, 2 and 3 made, 4 is the last. */
    private static Hand hand() {
        Hand hand = new Hand();
        hand.riddle(0, 0, "bird");
        hand.riddle(0, 1, "tree");
        hand.riddle(1, 1, "bt");
        hand.riddle(1, 2, "cab");
        hand.riddle(2, 0, "end");
        return hand;
    }

    private static void rule(String text, int fault, int place) {
        Hand hand = hand();
        told(hand, "rule '" + text + "'", hand.rule(3, text), fault, place);
        CHECK.due("whether '" + text + "' is kept", hand.house.about(3, 6), fault == 0 ? 1 : 0);
    }

    private static void form(String text, int fault, int place) {
        Hand hand = hand();
        told(hand, "form '" + text + "'", hand.form(3, text), fault, place);
        CHECK.due("whether '" + text + "' is kept", hand.house.about(3, 7), fault == 0 ? 1 : 0);
    }

    private static void working(String text, int fault, int place) {
        Hand hand = hand();
        told(hand, "working '" + text + "'", hand.working(3, text), fault, place);
        CHECK.due("whether '" + text + "' is kept", hand.house.about(3, 8), fault == 0 ? 1 : 0);
    }

    private static void told(Hand hand, String what, boolean got, int fault, int place) {
        CHECK.due(what, got, fault == 0);
        CHECK.due(what + ": trouble", hand.house.trouble(), fault == 0 ? 0 : 4);
        CHECK.due(what + ": fault", hand.house.fault(), fault);
        CHECK.due(what + ": where", hand.house.where(), fault == 0 ? -1 : place);
        CHECK.due(what + ": tape", hand.house.count(5), 0);
    }

    private static void rules() {
        rule("solved 0", 0, 0);
        rule("solved 20", 0, 0);
        rule("solved 020", 0, 0);
        rule("  solved1or(riddle4and not round 5 20)or minute999  ", 0, 0);
        rule("", 1, 0);
        rule("   ", 1, 3);
        rule("solved", 1, 6);
        rule("solved  ", 1, 8);
        rule("solved 21", 3, 7);
        rule("solved 999", 3, 7);
        rule("solved 1000", 1, 7);
        rule("solved 0001", 1, 7);
        rule("solved one", 1, 7);
        rule("solved -1", 1, 7);
        rule("Solved 1", 1, 0);
        rule("sOlved 1", 1, 0);
        rule("solve 1", 1, 0);
        rule("solvedd 1", 1, 0);
        rule("solvedsolvedsolved", 1, 0);
        rule("riddle 5", 2, 7);
        rule("riddle 999", 2, 7);
        rule("riddle 3", 0, 0);
        rule("riddle 1 2", 1, 9);
        rule("round 6 1", 3, 6);
        rule("round 6", 3, 6);
        rule("round 5", 1, 7);
        rule("round 5 21", 3, 8);
        rule("round 0 0", 0, 0);
        rule("minute 0", 0, 0);
        rule("minute 999", 0, 0);
        rule("minute 1000", 1, 7);
        rule("not", 1, 3);
        rule("not not solved 1", 0, 0);
        rule("not and", 1, 4);
        rule("and solved 1", 1, 0);
        rule("solved 1 and", 1, 12);
        rule("solved 1 and or", 1, 13);
        rule("solved 1 not solved 1", 1, 9);
        rule("solved 1 (solved 1)", 1, 9);
        rule("solved 1)", 1, 8);
        rule("(solved 1", 1, 9);
        rule("()", 1, 1);
        rule("(solved 1)(", 1, 10);
        rule("(solved 1) or solved 1 and (solved 1 or riddle 9)", 2, 47);
        rule("solved 1;", 1, 8);
        rule("solved 1 or $", 1, 12);
        rule("riddle 9 $", 2, 7);
        rule("solved 1\t", 1, 8);
        rule("solved 1\u00a0", 1, 8);
        rule("solved\u00001", 1, 6);
    }

    private static void manyOfRules() {
        // A 31st fact can't be met: 30 of them, as short as can be, and an "or" leave no byte for it.
        String thirty = "solved1" + "or solved1".repeat(29);
        CHECK.due("bytes of thirty facts", thirty.length(), 297);
        rule(thirty, 0, 0);
        rule(thirty + "or", 1, 299);
        rule(thirty + "or(", 1, 300);
        rule("(((((((( solved 1 ))))))))", 0, 0);
        rule("((((((((( solved 1 )))))))))", 4, 8);
        rule("((((((((solved 1))))))))or((((((((solved 1))))))))", 0, 0);
        rule("solved 1(((((((((", 1, 8);
        rule("((((((((", 1, 8);
        rule("((((((((not(", 4, 11);
        rule("not ".repeat(8) + "solved 1", 0, 0);
        rule("not ".repeat(9) + "solved 1", 4, 32);
        rule("not ".repeat(8) + "(" + "not ".repeat(8) + "solved 1)", 0, 0);
        rule("not ".repeat(8) + "(" + "not ".repeat(9) + "solved 1)", 4, 65);
        rule("not ".repeat(8) + "solved 1 and " + "not ".repeat(8) + "solved 1", 0, 0);
        rule("solved 1 " + "not ".repeat(9), 1, 9);
    }

    private static void forms() {
        form("a", 0, 0);
        form("twelveletter", 0, 0);
        form("thirteensigns", 1, 0);
        form("a thirteensigns", 1, 2);
        form("bird / big? (red / blue)? [a b c d] bird", 0, 0);
        form("", 1, 0);
        form(" ", 1, 1);
        form("A", 1, 0);
        form("aB", 1, 1);
        form("a1", 1, 1);
        form("1", 1, 0);
        form("1234", 1, 0);
        form("/a", 1, 0);
        form("a/", 1, 2);
        form("a//b", 1, 2);
        form("?", 1, 0);
        form("a??", 1, 2);
        form("a ?", 0, 0);
        form("a/?", 1, 2);
        form("(a)?", 0, 0);
        form("(a)??", 1, 4);
        form("(?", 1, 1);
        form("()", 1, 1);
        form("(a", 1, 2);
        form("(a/", 1, 3);
        form("a)", 1, 1);
        form("(a))", 1, 3);
        form("(a]", 1, 2);
        form("[]", 1, 1);
        form("[", 1, 1);
        form("[a", 1, 2);
        form("[a b?]", 1, 4);
        form("[a]?", 1, 3);
        form("[a]b", 0, 0);
        form("[a(b)]", 1, 2);
        form("[a/b]", 1, 2);
        form("[a[b]]", 1, 2);
        form("[(a)]", 1, 1);
        form("a]", 1, 1);
        form("a;b", 1, 1);
    }

    private static void manyOfForms() {
        form("a ".repeat(40), 0, 0);
        form("a ".repeat(41), 4, 80);
        form("a ".repeat(40) + "thirteensigns", 1, 80);
        form("a?".repeat(40), 0, 0);
        form("a?".repeat(41), 4, 80);
        form("a ".repeat(39) + "[b c]", 4, 81);
        form("[a b c d]".repeat(10), 0, 0);
        form("[a b c d]".repeat(10) + "/e", 4, 91);
        form("[a b c d]".repeat(10) + "?e", 1, 90);
        form("[a b c d e]", 4, 9);
        form("[a b c d thirteensigns]", 1, 9);
        form("((((((((a))))))))", 0, 0);
        form("(((((((((a)))))))))", 4, 8);
        form("((((((((a))))))))((((((((a))))))))?", 0, 0);
        form("[(((((((((", 1, 1);
        form("((((((((/", 1, 8);
        form("(a/".repeat(8) + "a" + ")?".repeat(8), 0, 0);
        form("(a/".repeat(9) + "a" + ")?".repeat(9), 4, 24);
    }

    private static void workings() {
        working("back", 0, 0);
        working("take 1 of 0", 0, 0);
        working("take1of0,12of2;all0;shift0;shift25;back;sort;cut1;cut24;each1;each24", 0, 0);
        working("", 1, 0);
        working("  ", 1, 2);
        working(";", 1, 0);
        working("back;", 1, 5);
        working("back back", 1, 5);
        working("back 1", 1, 5);
        working("sort, back", 1, 4);
        working("bac", 1, 0);
        working("Back", 1, 0);
        working("take", 1, 4);
        working("take of", 1, 5);
        working("take 0 of 0", 3, 5);
        working("take 13 of 0", 3, 5);
        working("take 12", 1, 7);
        working("take 1 0", 1, 7);
        working("take 1 off 0", 1, 7);
        working("take 1 of", 1, 9);
        working("take 1 of x", 1, 10);
        working("take 1 of 3", 2, 10);
        working("take 1 of 4", 2, 10);
        working("take 1 of 999", 2, 10);
        working("take 1 of 1234", 1, 10);
        working("take 1 of 2,", 1, 12);
        working("take 1 of 2, take", 1, 13);
        working("take 1 of 2, 0 of 3", 3, 13);
        working("take 1 of 2, 1 of 3", 2, 18);
        working("all", 1, 3);
        working("all 3", 2, 4);
        working("all 2", 0, 0);
        working("all 0, 1", 1, 5);
        working("shift", 1, 5);
        working("shift 26", 3, 6);
        working("cut 0", 3, 4);
        working("cut 25", 3, 4);
        working("each 0", 3, 5);
        working("each 25", 3, 5);
        working("each 1234", 1, 5);
        working("back; ?", 1, 6);
        Hand first = new Hand();
        first.riddle(1, 0, "own");
        told(first, "a first riddle's working", first.working(0, "all 0"), 2, 4);
        told(first, "a first riddle's working", first.working(0, "back"), 0, 0);
    }

    private static void manyOfWorkings() {
        working("back" + ";sort".repeat(11), 0, 0);
        working("back" + ";sort".repeat(12), 4, 60);
        working("back" + ";sort".repeat(11) + ";take 0", 4, 60);
        working("back" + ";sort".repeat(11) + ";none", 1, 60);
        working("back" + ";sort".repeat(11) + ";", 1, 60);
        working("back" + ";sort".repeat(11) + ",back", 1, 59);
        String twelve = "take 1 of 0" + ",1 of 0".repeat(11);
        working(twelve, 0, 0);
        working(twelve + ";" + twelve, 0, 0);
        working(twelve + ",1 of 0", 4, 89);
        working(twelve + ",12 of 9", 4, 89);
        working(twelve + ",13 of 0", 3, 89);
        working(twelve + ",0 of 0", 3, 89);
        working(twelve + ",of 0", 1, 89);
        working(twelve + ",1234 of 0", 1, 89);
        working(twelve + ",", 1, 89);
        working(twelve + ", ", 1, 90);
    }

    private static void refusals() {
        Hand hand = hand();
        HuntHouse house = hand.house;
        hand.feed("solved 1");
        boolean[] got = {house.rule(5, 8), house.rule(-1, 8), house.form(5, 8), house.form(-1, 99),
            house.working(5, 8), house.working(-1, 8), house.rule(20, -1)};
        for (boolean one : got) {
            CHECK.due("no riddle", one, false);
        }
        CHECK.due("no riddle's trouble", house.trouble(), 1);
        CHECK.due("tape stays", house.count(5), 20);
        CHECK.due("a plain riddle's working", house.working(0, 99), false);
        CHECK.due("its trouble", house.trouble(), 9);
        CHECK.due("tape stays", house.count(5), 20);
        int[] wrong = {-1, 21, 301, Integer.MAX_VALUE, Integer.MIN_VALUE};
        for (int n : wrong) {
            house.states(0);
            CHECK.due("rule with n " + n, house.rule(3, n), false);
            CHECK.due("its trouble", house.trouble(), 2);
            house.states(0);
            CHECK.due("form with n " + n, house.form(3, n), false);
            CHECK.due("its trouble", house.trouble(), 2);
            house.states(0);
            CHECK.due("working with n " + n, house.working(3, n), false);
            CHECK.due("its trouble", house.trouble(), 2);
            CHECK.due("tape stays", house.count(5), 20);
        }
        CHECK.due("n of all there is", house.rule(3, 20), true);
        CHECK.due("tape is empty", house.count(5), 0);
        CHECK.due("the last one's working", hand.working(4, "all 3"), true);
    }

    private static void faultAndWhere() {
        Hand hand = hand();
        HuntHouse house = hand.house;
        hand.rule(3, "riddle 9");
        CHECK.due("where", house.where(), 7);
        house.about(0, 0);
        house.count(0);
        hand.feed("solved 1");
        CHECK.due("where behind what may not be refused", house.where(), 7);
        CHECK.due("refused by 1", house.rule(9, 8), false);
        CHECK.due("where behind 1", house.where(), -1);
        CHECK.due("fault behind 1", house.fault(), 2);
        CHECK.due("refused by 2", house.form(3, 21), false);
        CHECK.due("fault behind 2", house.fault(), 2);
        CHECK.due("refused by 9", house.working(0, 8), false);
        CHECK.due("fault behind 9", house.fault(), 2);
        CHECK.due("read as a form: two words and a number", house.form(3, 8), false);
        CHECK.due("fault", house.fault(), 1);
        CHECK.due("where", house.where(), 7);
        house.team();
        CHECK.due("where behind an accepted call", house.where(), -1);
        CHECK.due("fault behind another call", house.fault(), 1);
        CHECK.due("a form", hand.form(3, "cab"), true);
        CHECK.due("fault behind one that was read", house.fault(), 0);
        hand.working(3, "cut 0");
        CHECK.due("fault of a working", house.fault(), 3);
        CHECK.due("a former form stays behind a fault", hand.form(3, "cab cab/"), false);
        CHECK.due("it takes still", hand.takes(3, "cab"), 1);
        CHECK.due("and no other", hand.takes(3, "cabcab"), 0);
    }
}

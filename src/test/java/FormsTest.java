/** Promises 5, 12, 13: which guesses are taken, which are near, and how far they are. */
public final class FormsTest {
    private static final Check CHECK = new Check("FormsTest");

    public static void main(String[] args) {
        withoutForm();
        forms();
        longGuesses();
        manyWays();
        near();
        steps();
        refusals();
        CHECK.end();
    }

    private static void withoutForm() {
        Hand hand = new Hand();
        hand.riddle(0, 0, "bird");
        CHECK.due("the answer", hand.takes(0, "bird"), 1);
        CHECK.due("great letters", hand.takes(0, "BiRD"), 1);
        CHECK.due("signs are left out", hand.takes(0, " b-i\u00e9r1d!@[`{"), 1);
        CHECK.due("less", hand.takes(0, "bir"), 0);
        CHECK.due("more", hand.takes(0, "birds"), 0);
        CHECK.due("nothing", hand.takes(0, ""), 0);
        CHECK.due("the bytes behind n are left out", takesFirst(hand, "birdcage", 4), 1);
        CHECK.due("tape is empty", hand.house.count(5), 0);
        CHECK.due("edges of the alphabet", edges(), 1);
    }

    private static int takesFirst(Hand hand, String text, int n) {
        hand.feed(text);
        return hand.house.takes(0, n);
    }

    private static int edges() {
        Hand hand = new Hand();
        hand.riddle(0, 0, "az");
        return hand.takes(0, "A@Z[");
    }

    private static void takes(String form, String guess, boolean want) {
        Hand hand = new Hand();
        hand.riddle(0, 0, "zzzzzzzzzzzz");
        CHECK.due("form '" + form + "'", hand.form(0, form), true);
        CHECK.due("'" + form + "' and '" + guess + "'", hand.takes(0, guess), want ? 1 : 0);
    }

    private static void takes(String form, String[] taken, String[] not) {
        for (String guess : taken) {
            takes(form, guess, true);
        }
        for (String guess : not) {
            takes(form, guess, false);
        }
    }

    private static void forms() {
        takes("bird", new String[] {"bird", "B I R D"}, new String[] {"", "bir", "birdbird", "zzzz"});
        takes("bi rd", new String[] {"bird"}, new String[] {"bi", "rd"});
        takes("a?", new String[] {"", "a"}, new String[] {"aa", "b"});
        takes("a?b?c?", new String[] {"", "a", "b", "c", "ab", "ac", "bc", "abc"}, new String[] {"ba", "cb", "abcc"});
        takes("a/b c/d", new String[] {"a", "bc", "d"}, new String[] {"", "b", "ac", "bd", "ad"});
        takes("(a/b)c", new String[] {"ac", "bc"}, new String[] {"a", "bca", "abc", "c"});
        takes("(a/b)?c", new String[] {"ac", "bc", "c"}, new String[] {"ab", "", "abc"});
        takes("x(a/b?)y", new String[] {"xay", "xby", "xy"}, new String[] {"xaby", "x", "y"});
        takes("x(a?/b)?y/z", new String[] {"xay", "xby", "xy", "z"}, new String[] {"xyz", "xz"});
        takes("[a]", new String[] {"a"}, new String[] {"", "aa"});
        takes("[a bc]", new String[] {"abc", "bca"}, new String[] {"bac", "a", "bc", "abcbc"});
        takes("x[a b]y", new String[] {"xaby", "xbay"}, new String[] {"xab", "xy", "xay", "xaay"});
        takes("[ab a b]", new String[] {"abab", "abba", "aabb", "baab", "aabb"}, new String[] {"aab", "bbaa", "ababab"});
        takes("[a a]", new String[] {"aa"}, new String[] {"a", "aaa"});
        takes("[a b c d]", new String[] {"abcd", "dcba", "bdac", "cabd"}, new String[] {"abc", "aabc", "abcdd"});
        takes("[a b]/[c d]e?", new String[] {"ab", "ba", "cd", "dc", "cde", "dce"}, new String[] {"abe", "ce"});
        takes("([a b]/c)?d", new String[] {"abd", "bad", "cd", "d"}, new String[] {"abcd", "ad"});
        takes("(((((((((a)?)?)?)?)?)?)?)?".substring(1), new String[] {"", "a"}, new String[] {"aa"});
        takes("the?big?(red/blue)bird", new String[] {"theredbird", "bluebird", "the big blue bird", "bigredbird"},
            new String[] {"bird", "the bird", "bigtheredbird", "redbluebird"});
    }

    private static void longGuesses() {
        String forty = "twelveletter".repeat(25);
        takes("twelveletter ".repeat(23), forty, false);
        takes("twelveletter ".repeat(23), forty.substring(0, 276), true);
        Hand hand = new Hand();
        hand.riddle(0, 0, "a");
        CHECK.due("form of 40 words", hand.form(0, "(a/bbb)?".repeat(20)), true);
        CHECK.due("60 letters", hand.takes(0, "bbb".repeat(20)), 1);
        CHECK.due("64 letters", hand.takes(0, "bbb".repeat(20) + "abbb"), 0);
        CHECK.due("300 letters", hand.takes(0, "bbb".repeat(100)), 0);
        CHECK.due("nothing", hand.takes(0, ""), 1);
        Hand wide = new Hand();
        wide.riddle(0, 0, "a");
        CHECK.due("form of bags", wide.form(0, "[aaaaaaaaaaaa aaaaaaaaaaaa aaaaaaaaaaaa aaaaaaaaaaaa]".repeat(5)), true);
        CHECK.due("240 letters", wide.takes(0, "a".repeat(240)), 1);
        CHECK.due("239 letters", wide.takes(0, "a".repeat(239)), 0);
        CHECK.due("300 letters", wide.takes(0, "a".repeat(300)), 0);
        for (int letters = 60; letters <= 70; letters++) {
            Hand edge = new Hand();
            edge.riddle(0, 0, "b");
            edge.form(0, "a?".repeat(30) + "(" + "aaaaa?".repeat(2) + ")b");
            CHECK.due("over an edge of 64 with " + letters, edge.takes(0, "a".repeat(letters - 1) + "b"),
                letters - 1 <= 40 ? 1 : 0);
            Hand run = new Hand();
            run.riddle(0, 0, "b");
            run.form(0, "twelveletter ".repeat(5) + "a?".repeat(12));
            CHECK.due("behind 60 with " + letters, run.takes(0, "twelveletter".repeat(5) + "a".repeat(letters - 60)), 1);
        }
    }

    /** Forms whose ways, gone through one by one, would never end. */
    private static void manyWays() {
        Hand hand = new Hand();
        hand.riddle(0, 0, "b");
        hand.form(0, "((((a?a?)a?a?)a?a?)a?a?)((((a?a?)a?a?)a?a?)a?a?)((((a?a?)a?a?)a?a?)a?a?)((((a?a?)a?a?)a?a?)a?a?)");
        CHECK.due("32 letters", hand.takes(0, "a".repeat(32)), 1);
        CHECK.due("33 letters", hand.takes(0, "a".repeat(33)), 0);
        CHECK.due("another at the end", hand.takes(0, "a".repeat(20) + "c"), 0);
    }

    private static void near() {
        Hand hand = new Hand();
        hand.riddle(0, 0, "bird");
        hand.form(0, "crow");
        CHECK.due("a form alone tells what is right", hand.takes(0, "crow"), 1);
        CHECK.due("the answer is no step from itself", hand.takes(0, "bird"), 2);
        CHECK.due("one step, no slack", hand.takes(0, "birds"), 0);
        hand.house.patience(0, 1, 0);
        CHECK.due("one step", hand.takes(0, "birds"), 2);
        CHECK.due("two steps", hand.takes(0, "birdss"), 0);
        hand.house.patience(0, 3, 0);
        CHECK.due("three steps", hand.takes(0, "d"), 2);
        CHECK.due("four steps", hand.takes(0, ""), 0);
        CHECK.due("near is to the answer, not the form", hand.takes(0, "crows"), 0);
        CHECK.due("right is ahead of near", hand.takes(0, "cr ow"), 1);
        CHECK.due("not refused", hand.house.trouble(), 0);
    }

    private static int plainSteps(String a, String b) {
        int[][] d = new int[a.length() + 1][b.length() + 1];
        for (int i = 0; i <= a.length(); i++) {
            for (int j = 0; j <= b.length(); j++) {
                if (i == 0 || j == 0) {
                    d[i][j] = i + j;
                } else {
                    int change = d[i - 1][j - 1] + (a.charAt(i - 1) == b.charAt(j - 1) ? 0 : 1);
                    d[i][j] = Math.min(change, 1 + Math.min(d[i - 1][j], d[i][j - 1]));
                }
            }
        }
        return d[a.length()][b.length()];
    }

    private static void steps() {
        String[] answers = {"a", "bird", "abcabcabcabc", "aaaa"};
        String[] guesses = {"", "a", "b", "bird", "brid", "bard", "ird", "birds", "sbird", "abcabcabcab",
            "bcabcabcabca", "aaa", "aaaaaaaaaaaaaaaaaaaaaaaa", "drib", "abcbacabcabc", "cba"};
        for (String answer : answers) {
            Hand hand = new Hand();
            hand.riddle(0, 0, answer);
            for (String guess : guesses) {
                CHECK.due("steps from " + guess + " to " + answer, hand.steps(0, guess), plainSteps(guess, answer));
            }
            CHECK.due("signs left out", hand.steps(0, "A1? "), plainSteps("a", answer));
            CHECK.due("300 letters", hand.steps(0, "a".repeat(300)), plainSteps("a".repeat(300), answer));
            CHECK.due("tape is empty", hand.house.count(5), 0);
        }
    }

    private static void refusals() {
        Hand hand = new Hand();
        hand.riddle(0, 0, "bird");
        hand.feed("bird");
        CHECK.due("no riddle", hand.house.takes(1, 4), -1);
        CHECK.due("its trouble", hand.house.trouble(), 1);
        CHECK.due("no riddle, with a wrong n", hand.house.steps(-1, 99), -1);
        CHECK.due("its trouble", hand.house.trouble(), 1);
        int[] wrong = {-1, 21, Integer.MAX_VALUE, Integer.MIN_VALUE};
        for (int n : wrong) {
            hand.house.states(0);
            CHECK.due("n " + n, hand.house.takes(0, n), -1);
            CHECK.due("its trouble", hand.house.trouble(), 2);
            hand.house.states(0);
            CHECK.due("n " + n, hand.house.steps(0, n), -1);
            CHECK.due("its trouble", hand.house.trouble(), 2);
        }
        CHECK.due("tape stays", hand.house.count(5), 20);
        CHECK.due("steps", hand.house.steps(0, 3), 1);
        CHECK.due("accepted", hand.house.trouble(), 0);
        CHECK.due("tape is empty", hand.house.count(5), 0);
    }
}

/** Counts the answers that are not as due, prints them, and ends a test with exit code 1 if there was one. */
final class Check {
    private final String test;
    private int looked = 0;
    private int wrong = 0;

    Check(String test) {
        this.test = test;
    }

    void due(String what, long got, long want) {
        looked++;
        if (got != want) {
            wrong++;
            if (wrong <= 40) {
                System.out.println(test + ": " + what + " answered " + got + ", due is " + want);
            }
        }
    }

    void due(String what, boolean got, boolean want) {
        due(what, got ? 1 : 0, want ? 1 : 0);
    }

    /** The sentence that the test around looks at; it must stand so in the document. */
    void sentence(String heading, String words) {
        due("the document says under " + heading + " '" + words + "'", Document.says(heading, words), true);
    }

    /** A call that answers NONE, and the TROUBLE behind it. */
    void refused(String what, HuntHouse house, long got, int why) {
        due(what, got, HuntHouse.NONE);
        due(what + ": trouble", house.trouble(), why);
    }

    /** A call that answers false, and the TROUBLE behind it. */
    void refused(String what, HuntHouse house, boolean got, int why) {
        due(what, got, false);
        due(what + ": trouble", house.trouble(), why);
    }

    /** A call that is accepted, and its answer. */
    void accepted(String what, HuntHouse house, long got, long want) {
        due(what, got, want);
        due(what + ": trouble", house.trouble(), 0);
    }

    boolean isWrong() {
        return wrong > 0;
    }

    void end() {
        System.out.println(test + ": " + looked + " answers, " + wrong + " not as due");
        if (wrong > 0 || looked == 0) {
            System.exit(1);
        }
    }
}

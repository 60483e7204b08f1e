import java.util.Arrays;
import java.util.NoSuchElementException;
import java.util.Random;

/** All promises: runs of calls drawn by chance (the same every time) on the class and on the model. */
public final class ModelTest {
    private static final Check CHECK = new Check("ModelTest");
    private static final int RUNS = 3000;
    // An object is used for at most 512 calls; a step and the last looks make 130 at most.
    private static final int CALLS = 512;
    private static final int LEFT_FOR_LAST = 130;

    private final Random chance;
    private final int run;
    private int calls = 0;
    private final HuntHouse house = new HuntHouse();
    private final Model model = new Model();
    private final Texts texts;

    private ModelTest(int run) {
        this.run = run;
        chance = new Random(run);
        texts = new Texts(chance);
    }

    public static void main(String[] args) {
        for (int run = 0; run < RUNS && !CHECK.isWrong(); run++) {
            new ModelTest(run).go();
        }
        CHECK.end();
    }

    private void go() {
        int riddles = chance.nextInt(9);
        for (int r = 0; r < riddles; r++) {
            riddle();
        }
        while (calls < CALLS - LEFT_FOR_LAST && !CHECK.isWrong()) {
            step();
            for (int looks = below(2 + run % 5); looks > 0; looks--) {
                look();
            }
        }
        lookAtAll();
        CHECK.due("calls of run " + run + ": " + calls, calls <= CALLS, true);
    }

    /** Each of these is one call of the class. */
    private void due(String call, long got, long want) {
        calls++;
        CHECK.due("run " + run + ": " + call, got, want);
    }

    private void due(String call, boolean got, boolean want) {
        due(call, got ? 1 : 0, want ? 1 : 0);
    }

    private int below(int n) {
        return chance.nextInt(n);
    }

    private boolean rarely() {
        return below(25) == 0;
    }

    private int anyRiddle() {
        int count = model.now.riddles.size();
        return count == 0 || rarely() ? below(24) - 2 : below(count);
    }

    private int anyTeam() {
        int count = model.now.starts.size();
        return count == 0 || rarely() ? below(11) - 1 : below(count);
    }

    /** Feeds a text and answers its length, or sometimes another number. */
    private int feed(String text) {
        for (int from = 0; from < text.length(); from += 20) {
            int[] five = Hand.numbers(text, from);
            due("feed '" + text + "'", house.feed(five[0], five[1], five[2], five[3], five[4]), model.feed(five));
        }
        if (below(40) > 0) {
            return text.length();
        }
        return below(2) == 0 ? below(310) - 5 : new int[] {-1, 301, Integer.MIN_VALUE, Integer.MAX_VALUE}[below(4)];
    }

    private void emptyTape() {
        if (!model.tape.isEmpty() && below(10) > 0) {
            int riddle = model.now.riddles.isEmpty() ? 0 : below(model.now.riddles.size());
            due("takes to empty the tape", house.takes(riddle, 0), model.takes(riddle, 0));
        }
    }

    private void step() {
        emptyTape();
        switch (below(30)) {
            case 0, 1 -> riddle();
            case 2, 3, 4 -> text('r');
            case 5, 6 -> text('f');
            case 7, 8 -> text('w');
            case 9 -> patience();
            case 10 -> hint();
            case 11 -> takes();
            case 12 -> make();
            case 13 -> book();
            case 14 -> due("team", house.team(), model.team());
            case 15, 16 -> pass();
            case 17 -> open();
            case 18, 19, 20, 21 -> guess();
            case 22, 23 -> buy();
            case 24, 25 -> ways();
            case 26, 27 -> undo();
            case 28 -> rank();
            default -> feed(texts.word());
        }
    }

    private void riddle() {
        String word = texts.wordText();
        int kind = rarely() ? below(6) - 1 : below(12) == 0 ? 2 : below(2);
        int round = rarely() ? below(9) - 1 : below(6);
        int n = feed(word);
        due("riddle(" + kind + ", " + round + ", '" + word + "')", house.riddle(kind, round, n),
            model.riddle(kind, round, n));
    }

    private void text(char which) {
        int riddle = anyRiddle();
        String text = texts.text(which, model.now.riddles.size(), riddle);
        if (below(4) == 0) {
            text = texts.broken(text);
        }
        if (text.length() > 300) {
            text = text.substring(0, 300);
        }
        int n = feed(text);
        boolean want = model.text(which, riddle, n);
        String call = which + " of " + riddle + " '" + text + "' " + n;
        if (which == 'r') {
            due(call, house.rule(riddle, n), want);
        } else if (which == 'f') {
            due(call, house.form(riddle, n), want);
        } else {
            due(call, house.working(riddle, n), want);
        }
    }

    private void patience() {
        int riddle = anyRiddle();
        int slack = rarely() ? below(8) - 2 : below(4);
        int lock = rarely() ? below(80) - 10 : below(4) * below(16);
        due("patience", house.patience(riddle, slack, lock), model.patience(riddle, slack, lock));
    }

    private void hint() {
        int riddle = anyRiddle();
        int minutes = rarely() ? below(1200) - 100 : below(30);
        int price = rarely() ? below(1200) - 100 : below(20);
        due("hint", house.hint(riddle, minutes, price), model.hint(riddle, minutes, price));
    }

    private String guessFor(int riddle) {
        if (riddle < 0 || riddle >= model.now.riddles.size() || rarely()) {
            return texts.broken(texts.word());
        }
        Model.Riddle one = model.now.riddles.get(riddle);
        String guess = one.form == null || below(3) == 0 ? one.answer : texts.wayOf(one.form);
        return below(3) == 0 ? texts.broken(guess) : guess;
    }

    private void takes() {
        int riddle = anyRiddle();
        String guess = guessFor(riddle);
        int n = feed(guess);
        if (below(2) == 0) {
            due("takes " + riddle + " '" + guess + "'", house.takes(riddle, n), model.takes(riddle, n));
        } else {
            due("steps " + riddle + " '" + guess + "'", house.steps(riddle, n), model.steps(riddle, n));
        }
    }

    private void make() {
        int riddle = anyRiddle();
        int unknown = rarely() ? chance.nextInt() : below(256) & below(256);
        due("make " + riddle, house.make(riddle), model.made(riddle, 0, 0));
        due("fits " + riddle, house.fits(riddle), model.made(riddle, 0, 2));
        due("without " + riddle, house.without(riddle, unknown), model.made(riddle, unknown, 0));
        due("follows " + riddle, house.follows(riddle, unknown), model.made(riddle, unknown, 1));
        for (int looks = below(4); looks > 0; looks--) {
            int i = below(rarely() ? 27 : model.out.length() + 2) - 1;
            due("out " + i, outOf(i), model.out(i));
        }
    }

    private int outOf(int i) {
        try {
            return house.out(i);
        } catch (NoSuchElementException e) {
            return -7;
        }
    }

    private void book() {
        String word = texts.wordText();
        int n = feed(word);
        due("book '" + word + "'", house.book(n), model.book(n));
    }

    private void pass() {
        int minutes = rarely() ? below(1200) - 100 : 1 + below(12);
        due("pass " + minutes, house.pass(minutes), model.pass(minutes));
    }

    private void open() {
        int team = anyTeam();
        int riddle = anyRiddle();
        due("open " + team + " " + riddle, house.open(team, riddle), model.open(team, riddle));
    }

    private void guess() {
        int team = anyTeam();
        int riddle = anyRiddle();
        String guess = guessFor(riddle);
        int n = feed(guess);
        due("guess " + team + " " + riddle + " '" + guess + "'", house.guess(team, riddle, n),
            model.guess(team, riddle, n));
    }

    private void buy() {
        int team = anyTeam();
        int riddle = anyRiddle();
        due("buy " + team + " " + riddle, house.buy(team, riddle), model.buy(team, riddle));
    }

    private void ways() {
        int minute = rarely() ? below(12000) - 1000 : below(60);
        due("states at " + minute, house.states(minute), model.ways(0, minute));
        due("shut at " + minute, house.shut(minute), model.ways(1, minute));
        due("trouble of shut", house.trouble(), model.trouble);
        due("shortest at " + minute, house.shortest(minute), model.ways(2, minute));
        due("trouble of shortest", house.trouble(), model.trouble);
        due("dead at " + minute, house.dead(minute), model.ways(3, minute));
    }

    private void undo() {
        int times = rarely() ? below(110) : 1 + below(3);
        for (int k = 0; k < times && calls < CALLS - LEFT_FOR_LAST; k++) {
            due("undo", house.undo(), model.undo());
        }
    }

    private void rank() {
        int minute = rarely() ? below(100) - 50 : below(model.now.minute + 1);
        int last = rarely() ? 8 : model.now.starts.size();
        for (int i = rarely() ? -1 : 0; i <= last; i++) {
            due("rank " + i + " at " + minute, house.rank(i, minute), model.rank(i, minute));
        }
    }

    /** One of those things that may be looked at behind every call. */
    private void look() {
        switch (below(12)) {
            case 0, 1, 2 -> due("trouble", house.trouble(), model.trouble);
            case 3 -> due("fault", house.fault(), model.fault);
            case 4 -> due("where", house.where(), model.where());
            case 5, 6 -> count(below(9) - 1);
            case 7, 8 -> about(anyRiddle(), below(11) - 1);
            case 9, 10 -> teamOf(anyTeam(), below(9) - 1);
            default -> told(anyTeam(), anyRiddle(), below(6) - 1);
        }
    }

    private void count(int what) {
        due("count " + what, house.count(what), model.count(what));
    }

    private void about(int riddle, int what) {
        due("about " + riddle + " " + what, house.about(riddle, what), model.about(riddle, what));
    }

    private void teamOf(int team, int what) {
        due("teamOf " + team + " " + what, house.teamOf(team, what), model.teamOf(team, what));
    }

    private void told(int team, int riddle, int what) {
        due("told " + team + " " + riddle + " " + what, house.told(team, riddle, what), model.told(team, riddle, what));
    }

    private void lookAtAll() {
        due("trouble", house.trouble(), model.trouble);
        due("fault", house.fault(), model.fault);
        due("where", house.where(), model.where());
        for (int what = -1; what <= 7; what++) {
            count(what);
        }
        int riddle = anyRiddle();
        int team = anyTeam();
        for (int what = -1; what <= 9; what++) {
            about(riddle, what);
            teamOf(team, what);
            told(team, riddle, what);
        }
    }

    /** Texts by chance, most of which are such as the document lets be. */
    private static final class Texts {
        private final Random chance;

        Texts(Random chance) {
            this.chance = chance;
        }

        private int below(int n) {
            return chance.nextInt(n);
        }

        String word() {
            char[] word = new char[1 + below(below(6) == 0 ? 12 : 4)];
            for (int i = 0; i < word.length; i++) {
                word[i] = (char) ('a' + below(below(5) == 0 ? 26 : 3));
            }
            return new String(word);
        }

        /** A word as a call is handed it: mostly bare, else with blanks round it, seldom broken. */
        String wordText() {
            String word = below(25) == 0 ? broken(word()) : word();
            return below(4) > 0 ? word : " ".repeat(below(3)) + word + " ".repeat(below(below(5) == 0 ? 40 : 3));
        }

        String text(char which, int riddles, int own) {
            if (below(60) == 0) {
                return many(which);
            }
            String text = which == 'r' ? any(riddles, 0) : which == 'f' ? either(0) : working(own);
            return below(4) == 0 ? text.replaceAll(" (?![a-z])|(?<![a-z]) ", "") : text;
        }

        private String many(char which) {
            int n = 7 + below(7);
            if (which == 'r') {
                return below(2) == 0 ? "not ".repeat(n) + "solved 1" : "(".repeat(n) + "solved 1" + ")".repeat(n);
            }
            if (which == 'f') {
                return below(2) == 0 ? "a ".repeat(30 + n) : "(".repeat(n) + "a" + ")".repeat(n);
            }
            return below(2) == 0 ? "back;".repeat(n) + "sort" : "take 1 of 0" + ",1 of 0".repeat(n);
        }

        private String any(int riddles, int deep) {
            StringBuilder text = new StringBuilder(one(riddles, deep));
            for (int n = below(4); n > 1; n--) {
                text.append(below(2) == 0 ? " or " : " and ").append(one(riddles, deep));
            }
            return text.toString();
        }

        private String one(int riddles, int deep) {
            switch (below(deep > 3 ? 5 : 8)) {
                case 0: return "solved " + (below(30) == 0 ? below(30) : below(5));
                case 1:
                case 2: return "riddle " + (below(30) == 0 ? below(30) : below(Math.max(1, riddles)));
                case 3: return "round " + below(below(30) == 0 ? 9 : 6) + " " + (below(30) == 0 ? below(30) : below(3));
                case 4: return "minute " + (below(30) == 0 ? below(999) : below(50));
                case 5: return "not " + one(riddles, deep + 1);
                default: return "(" + any(riddles, deep + 1) + ")";
            }
        }

        private String either(int deep) {
            StringBuilder text = new StringBuilder(row(deep));
            for (int n = below(4); n > 1; n--) {
                text.append(" / ").append(row(deep));
            }
            return text.toString();
        }

        private String row(int deep) {
            StringBuilder text = new StringBuilder(part(deep));
            for (int n = below(4); n > 1; n--) {
                text.append(" ").append(part(deep));
            }
            return text.toString();
        }

        private String part(int deep) {
            String mayLack = below(3) == 0 ? "?" : "";
            switch (below(deep > 2 ? 4 : 6)) {
                case 0:
                    return "[" + word() + " " + String.join(" ", words(below(4))) + "]";
                case 1:
                case 2:
                case 3:
                    return word() + mayLack;
                default:
                    return "(" + either(deep + 1) + ")" + mayLack;
            }
        }

        private String[] words(int n) {
            String[] words = new String[n];
            for (int i = 0; i < n; i++) {
                words[i] = word();
            }
            return words;
        }

        private String working(int own) {
            StringBuilder text = new StringBuilder(stepText(own));
            for (int n = below(5); n > 0; n--) {
                text.append("; ").append(stepText(own));
            }
            return text.toString();
        }

        private String stepText(int own) {
            int other = below(20) == 0 ? below(30) : below(Math.max(1, own));
            switch (below(9)) {
                case 0:
                case 1: return "all " + other;
                case 2: return "shift " + below(below(10) == 0 ? 40 : 26);
                case 3: return "back";
                case 4: return "sort";
                case 5: return "cut " + (1 + below(below(10) == 0 ? 30 : 8));
                case 6: return "each " + (1 + below(below(10) == 0 ? 30 : 3));
                default:
                    StringBuilder take = new StringBuilder("take 1 of " + other);
                    for (int n = below(4); n > 0; n--) {
                        take.append(", ").append(1 + below(below(12) == 0 ? 14 : 2)).append(" of ").append(other);
                    }
                    return take.toString();
            }
        }

        /** A guess that a form might take: a way through its tokens, drawn by chance. */
        String wayOf(String form) {
            String row = form;
            while (row.matches(".*[(\\[].*")) {
                int close = row.indexOf(')') < 0 ? row.indexOf(']') : row.indexOf(')');
                if (row.indexOf(']') >= 0 && row.indexOf(']') < close) {
                    close = row.indexOf(']');
                }
                int open = Math.max(row.lastIndexOf('(', close), row.lastIndexOf('[', close));
                String inner = row.substring(open + 1, close);
                String way = row.charAt(close) == ']' ? shuffled(inner) : flat(inner);
                row = row.substring(0, open) + " " + way + "_" + row.substring(close + 1);
            }
            return flat(row);
        }

        private String shuffled(String words) {
            String[] all = words.trim().split(" +");
            java.util.Collections.shuffle(Arrays.asList(all), chance);
            return String.join("", all);
        }

        private String flat(String either) {
            String[] rows = either.split("/");
            StringBuilder way = new StringBuilder();
            for (String part : rows[below(rows.length)].replace("?", "? ").trim().split(" +")) {
                boolean lacks = part.endsWith("?") && below(2) == 0;
                way.append(lacks ? "" : part.replaceAll("[^a-z]", ""));
            }
            return way.toString();
        }

        /** The text with a few signs put in, left out or changed. */
        String broken(String text) {
            StringBuilder made = new StringBuilder(text);
            String signs = "abz 019()[]/?;,AZ@{`\u00e9";
            for (int n = 1 + below(2); n > 0; n--) {
                int at = below(made.length() + 1);
                char sign = signs.charAt(below(signs.length()));
                int how = below(3);
                if (how == 0 || at == made.length()) {
                    made.insert(at, sign);
                } else if (how == 1) {
                    made.deleteCharAt(at);
                } else {
                    made.setCharAt(at, sign);
                }
            }
            return made.toString();
        }
    }
}

import java.io.IOException;
import java.nio.file.Files;
import java.nio.file.Path;
import java.util.ArrayList;
import java.util.HashMap;
import java.util.List;
import java.util.Map;
import java.util.regex.Matcher;
import java.util.regex.Pattern;

/** The examples of README.md: each line of them stands here too, and answers what is told behind it there. */
public final class ReadmeTest {
    private static final Check CHECK = new Check("ReadmeTest");
    private static final Pattern TELLS = Pattern.compile("(?:int|boolean) (\\w+) = .*; // (\\S+)");
    private static final Map<String, String> TOLD = new HashMap<>();
    private static int answered = 0;

    public static void main(String[] args) throws IOException {
        List<String> lines = examples(Files.readAllLines(Path.of("README.md")));
        List<String> own = new ArrayList<>();
        for (String line : Files.readAllLines(Path.of("src/test/java/ReadmeTest.java"))) {
            own.add(line.trim());
        }
        for (String line : lines) {
            CHECK.due("is run here: " + line, own.contains(line.replaceAll(" // .*", "")), true);
            Matcher tells = TELLS.matcher(line);
            if (tells.matches()) {
                TOLD.put(tells.group(1), tells.group(2));
            }
        }
        example();
        CHECK.due("answers told", answered, TOLD.size());
        CHECK.end();
    }

    private static List<String> examples(List<String> text) {
        List<String> lines = new ArrayList<>();
        boolean isJava = false;
        for (String line : text) {
            if (line.startsWith("```")) {
                isJava = line.equals("```java");
            } else if (isJava) {
                lines.add(line.trim());
            }
        }
        return lines;
    }

    private static void is(String name, Object got) {
        answered++;
        CHECK.due(name + " is " + got + ", told is " + TOLD.get(name), String.valueOf(got).equals(TOLD.get(name)), true);
    }

    static int put(HuntHouse house, String text) {
        for (int from = 0; from < text.length(); from += 20) {
            int[] five = new int[5];
            for (int i = 0; i < 20; i++) {
                int sign = from + i < text.length() ? text.charAt(from + i) : ' ';
                five[i / 4] = five[i / 4] << 8 | sign & 255;
            }
            house.feed(five[0], five[1], five[2], five[3], five[4]);
        }
        return text.length();
    }

    private static void example() {
        HuntHouse house = new HuntHouse();
        int bird = house.riddle(0, 0, put(house, "bird"));
        is("bird", bird);
        int tree = house.riddle(0, 1, put(house, "tree"));
        is("tree", tree);
        int last = house.riddle(2, 1, put(house, "bt"));
        is("last", last);
        boolean taken = house.form(bird, put(house, "(the)? bird / fowl"));
        is("taken", taken);
        boolean behindBird = house.rule(tree, put(house, "riddle 0"));
        is("behindBird", behindBird);
        boolean behindBoth = house.rule(last, put(house, "solved 2"));
        is("behindBoth", behindBoth);
        boolean made = house.working(last, put(house, "take 1 of 0, 1 of 1"));
        is("made", made);
        boolean patient = house.patience(bird, 1, 5);
        is("patient", patient);
        int hints = house.hint(tree, 3, 10);
        is("hints", hints);
        guessesAndWorkings(house, bird, last);
        hunt(house, bird, tree);
        waysAndRefusals(house, last);
    }

    private static void guessesAndWorkings(HuntHouse house, int bird, int last) {
        int right = house.takes(bird, put(house, "The Bird!"));
        is("right", right);
        int steps = house.steps(bird, put(house, "birch"));
        is("steps", steps);
        int fits = house.fits(last);
        is("fits", fits);
        int letters = house.without(last, 1 << bird);
        is("letters", letters);
        int unknown = house.out(0);
        is("unknown", unknown);
        int words = house.book(put(house, "at"));
        is("words", words);
        int follows = house.follows(last, 1 << bird);
        is("follows", follows);
    }

    private static void hunt(HuntHouse house, int bird, int tree) {
        int team = house.team();
        is("team", team);
        int shutYet = house.guess(team, tree, put(house, "tree"));
        is("shutYet", shutYet);
        int notOpen = house.trouble();
        is("notOpen", notOpen);
        int near = house.guess(team, bird, put(house, "birds"));
        is("near", near);
        int from = house.told(team, bird, 3);
        is("from", from);
        int minute = house.pass(5);
        is("minute", minute);
        int solved = house.guess(team, bird, put(house, "fowl"));
        is("solved", solved);
        int later = house.pass(3);
        is("later", later);
        int hint = house.buy(team, tree);
        is("hint", hint);
        int mark = house.teamOf(team, 2);
        is("mark", mark);
        int first = house.rank(0, 8);
        is("first", first);
    }

    private static void waysAndRefusals(HuntHouse house, int last) {
        int team = 0;
        int states = house.states(0);
        is("states", states);
        int shut = house.shut(0);
        is("shut", shut);
        int shortest = house.shortest(0);
        is("shortest", shortest);
        int dead = house.dead(0);
        is("dead", dead);
        boolean faulty = house.rule(last, put(house, "riddle 0 and riddle 9"));
        is("faulty", faulty);
        int fault = house.fault();
        is("fault", fault);
        int where = house.where();
        is("where", where);
        int undone = house.undo();
        is("undone", undone);
        int before = house.teamOf(team, 2);
        is("before", before);
    }
}

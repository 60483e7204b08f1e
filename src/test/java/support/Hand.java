import java.nio.charset.StandardCharsets;

/** A house with calls that feed a text and use it at once. */
final class Hand {
    final HuntHouse house = new HuntHouse();

    static int[] numbers(String text, int from) {
        byte[] bytes = text.getBytes(StandardCharsets.ISO_8859_1);
        int[] five = new int[5];
        for (int i = 0; i < 20; i++) {
            int sign = from + i < bytes.length ? bytes[from + i] & 255 : ' ';
            five[i / 4] = five[i / 4] << 8 | sign;
        }
        return five;
    }

    int feed(String text) {
        for (int from = 0; from < text.length(); from += 20) {
            int[] five = numbers(text, from);
            house.feed(five[0], five[1], five[2], five[3], five[4]);
        }
        return text.length();
    }

    int riddle(int kind, int round, String answer) {
        return house.riddle(kind, round, feed(answer));
    }

    boolean rule(int riddle, String text) {
        return house.rule(riddle, feed(text));
    }

    boolean form(int riddle, String text) {
        return house.form(riddle, feed(text));
    }

    boolean working(int riddle, String text) {
        return house.working(riddle, feed(text));
    }

    int takes(int riddle, String guess) {
        return house.takes(riddle, feed(guess));
    }

    int steps(int riddle, String guess) {
        return house.steps(riddle, feed(guess));
    }

    int book(String word) {
        return house.book(feed(word));
    }

    int guess(int team, int riddle, String guess) {
        return house.guess(team, riddle, feed(guess));
    }

    String shown() {
        StringBuilder made = new StringBuilder();
        for (int i = 0; i < house.count(6); i++) {
            made.append((char) house.out(i));
        }
        return made.toString();
    }
}

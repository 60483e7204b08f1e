import java.util.ArrayDeque;
import java.util.ArrayList;
import java.util.Arrays;
import java.util.Comparator;
import java.util.Deque;
import java.util.HashMap;
import java.util.LinkedHashSet;
import java.util.List;
import java.util.Map;
import java.util.regex.Pattern;

/**
 * The document told a second time, in the plainest way and by other means than the class: acts make
 * a new state out of a copy of the old one, texts stay texts, a form becomes a regular expression,
 * a rule is worn down sign by sign, and all that is told of teams is looked up in the events.
 */
final class Model {
    static final int NONE = -1;

    static final class Riddle {
        int kind;
        int round;
        String answer;
        int slack;
        int lock;
        List<int[]> hints = new ArrayList<>();
        String rule;
        String form;
        String working;

        Riddle copy() {
            Riddle other = new Riddle();
            other.kind = kind;
            other.round = round;
            other.answer = answer;
            other.slack = slack;
            other.lock = lock;
            other.hints = new ArrayList<>(hints);
            other.rule = rule;
            other.form = form;
            other.working = working;
            return other;
        }
    }

    /** A guess with its verdict (0, 1, 2) and the minute waited to, or a hint bought (3) and its price. */
    record Event(int minute, int team, int riddle, int what, int number) { }

    static final class State {
        List<Riddle> riddles = new ArrayList<>();
        List<Integer> starts = new ArrayList<>();
        List<String> book = new ArrayList<>();
        List<Event> events = new ArrayList<>();
        int minute;

        State copy() {
            State other = new State();
            for (Riddle riddle : riddles) {
                other.riddles.add(riddle.copy());
            }
            other.starts.addAll(starts);
            other.book.addAll(book);
            other.events.addAll(events);
            other.minute = minute;
            return other;
        }
    }

    State now = new State();
    final Deque<State> before = new ArrayDeque<>();
    String tape = "";
    String out = "";
    int trouble;
    int fault;
    int place = NONE;

    // ---- acts

    private State act() {
        before.addLast(now);
        if (before.size() > 100) {
            before.removeFirst();
        }
        now = now.copy();
        trouble = 0;
        return now;
    }

    private int no(int why) {
        trouble = why;
        return NONE;
    }

    int undo() {
        if (before.isEmpty()) {
            return 0;
        }
        now = before.removeLast();
        return 1;
    }

    int feed(int... five) {
        if (tape.length() > 280) {
            return NONE;
        }
        StringBuilder more = new StringBuilder(tape);
        for (int number : five) {
            for (int k = 3; k >= 0; k--) {
                more.append((char) (number >>> 8 * k & 255));
            }
        }
        tape = more.toString();
        return tape.length();
    }

    private boolean onTape(int n) {
        return n >= 0 && n <= tape.length();
    }

    private String take(int n) {
        String text = tape.substring(0, n);
        tape = "";
        return text;
    }

    private boolean isRiddle(int riddle) {
        return riddle >= 0 && riddle < now.riddles.size();
    }

    private boolean isTeam(int team) {
        return team >= 0 && team < now.starts.size();
    }

    private static String withoutBlanksRound(String word) {
        return word.replaceAll("^ +| +$", "");
    }

    int riddle(int kind, int round, int n) {
        if (!onTape(n) || kind < 0 || kind > 2 || round < 0 || round > 5) {
            return no(2);
        }
        String word = withoutBlanksRound(take(n));
        if (!word.matches("[a-z]{1,12}")) {
            return no(2);
        }
        if (kind == 2 && last() >= 0) {
            return no(9);
        }
        if (now.riddles.size() == 20) {
            return no(3);
        }
        Riddle riddle = new Riddle();
        riddle.kind = kind;
        riddle.round = round;
        riddle.answer = word;
        act().riddles.add(riddle);
        return now.riddles.size() - 1;
    }

    private int last() {
        for (int r = 0; r < now.riddles.size(); r++) {
            if (now.riddles.get(r).kind == 2) {
                return r;
            }
        }
        return NONE;
    }

    /** Which: 'r' a rule, 'f' a form, 'w' a working. */
    boolean text(char which, int riddle, int n) {
        if (!isRiddle(riddle)) {
            return no(1) != NONE;
        }
        if (which == 'w' && now.riddles.get(riddle).kind == 0) {
            return no(9) != NONE;
        }
        if (!onTape(n)) {
            return no(2) != NONE;
        }
        String text = take(n);
        int[] found = Machine.fault(which, text, now.riddles.size(), riddle);
        fault = found[0];
        if (fault != 0) {
            place = found[1];
            return no(4) != NONE;
        }
        Riddle one = act().riddles.get(riddle);
        if (which == 'r') {
            one.rule = text;
        } else if (which == 'f') {
            one.form = text;
        } else {
            one.working = text;
        }
        return true;
    }

    int where() {
        return trouble == 4 ? place : NONE;
    }

    boolean patience(int riddle, int slack, int lock) {
        if (!isRiddle(riddle)) {
            return no(1) != NONE;
        }
        if (slack < 0 || slack > 3 || lock < 0 || lock > 60) {
            return no(2) != NONE;
        }
        Riddle one = act().riddles.get(riddle);
        one.slack = slack;
        one.lock = lock;
        return true;
    }

    int hint(int riddle, int minutes, int price) {
        if (!isRiddle(riddle)) {
            return no(1);
        }
        if (minutes < 0 || minutes > 999 || price < 0 || price > 999) {
            return no(2);
        }
        if (now.riddles.get(riddle).hints.size() == 3) {
            return no(3);
        }
        act().riddles.get(riddle).hints.add(new int[] {minutes, price});
        return now.riddles.get(riddle).hints.size();
    }

    int about(int riddle, int what) {
        if (!isRiddle(riddle)) {
            return NONE;
        }
        Riddle one = now.riddles.get(riddle);
        int[] all = {one.kind, one.round, one.answer.length(), one.slack, one.lock, one.hints.size(),
            one.rule == null ? 0 : 1, one.form == null ? 0 : 1, one.working == null ? 0 : 1};
        return what >= 0 && what < all.length ? all[what] : NONE;
    }

    // ---- guesses

    private static String letters(String bytes) {
        return bytes.replaceAll("[^A-Za-z]", "").toLowerCase(java.util.Locale.ROOT);
    }

    private int verdict(int riddle, String bytes) {
        Riddle one = now.riddles.get(riddle);
        String guess = letters(bytes);
        String form = one.form == null ? one.answer : Machine.regex(one.form);
        if (Pattern.matches(form, guess)) {
            return 1;
        }
        return distance(guess, one.answer) <= one.slack ? 2 : 0;
    }

    static int distance(String a, String b) {
        int[][] d = new int[a.length() + 1][b.length() + 1];
        for (int i = 0; i <= a.length(); i++) {
            for (int j = 0; j <= b.length(); j++) {
                d[i][j] = i == 0 || j == 0 ? i + j : Math.min(
                    d[i - 1][j - 1] + (a.charAt(i - 1) == b.charAt(j - 1) ? 0 : 1),
                    1 + Math.min(d[i - 1][j], d[i][j - 1]));
            }
        }
        return d[a.length()][b.length()];
    }

    int takes(int riddle, int n) {
        if (!isRiddle(riddle)) {
            return no(1);
        }
        if (!onTape(n)) {
            return no(2);
        }
        trouble = 0;
        return verdict(riddle, take(n));
    }

    int steps(int riddle, int n) {
        if (!isRiddle(riddle)) {
            return no(1);
        }
        if (!onTape(n)) {
            return no(2);
        }
        trouble = 0;
        return distance(letters(take(n)), now.riddles.get(riddle).answer);
    }

    // ---- workings

    /** What the working makes, null if it is BROKEN. */
    private String made(int riddle, int unknown) {
        String row = "";
        for (String step : now.riddles.get(riddle).working.replace(" ", "").split(";")) {
            String[] parts = step.split("(?<=[a-z])(?=[0-9])", 2);
            row = stepped(row, parts[0], parts.length > 1 ? parts[1] : "", unknown);
            if (row == null || row.length() > 24) {
                return null;
            }
        }
        return row;
    }

    private String answer(int riddle, int unknown) {
        String answer = now.riddles.get(riddle).answer;
        return (unknown >> riddle & 1) == 1 ? "?".repeat(answer.length()) : answer;
    }

    private String stepped(String row, String name, String rest, int unknown) {
        switch (name) {
            case "take":
                StringBuilder more = new StringBuilder(row);
                for (String one : rest.split(",")) {
                    String[] pair = one.split("of");
                    String answer = answer(Integer.parseInt(pair[1]), unknown);
                    int at = Integer.parseInt(pair[0]);
                    if (at > answer.length()) {
                        return null;
                    }
                    more.append(answer.charAt(at - 1));
                }
                return more.toString();
            case "all":
                return row + answer(Integer.parseInt(rest), unknown);
            case "back":
                return new StringBuilder(row).reverse().toString();
            case "sort":
                char[] signs = row.toCharArray();
                Arrays.sort(signs);
                return row.contains("?") ? "?".repeat(row.length()) : new String(signs);
            case "cut":
                return row.substring(0, Math.min(row.length(), Integer.parseInt(rest)));
            default:
                return spread(row, name, Integer.parseInt(rest));
        }
    }

    private static String spread(String row, String name, int number) {
        StringBuilder made = new StringBuilder();
        for (int i = 0; i < row.length(); i++) {
            char sign = row.charAt(i);
            if (name.equals("shift")) {
                made.append(sign == '?' ? sign : (char) ((sign - 97 + number) % 26 + 97));
            } else if ((i + 1) % number == 0) {
                made.append(sign);
            }
        }
        return made.toString();
    }

    /** Kind of call: 0 make and without, 1 follows, 2 fits. */
    int made(int riddle, int unknown, int call) {
        if (!isRiddle(riddle)) {
            return no(1);
        }
        if (now.riddles.get(riddle).working == null) {
            return no(9);
        }
        String row = made(riddle, unknown);
        if (row == null && call != 2) {
            return no(9);
        }
        trouble = 0;
        if (call == 2) {
            return now.riddles.get(riddle).answer.equals(row) ? 1 : 0;
        }
        if (call == 0) {
            out = row;
            return row.length();
        }
        int alike = 0;
        for (String word : now.book) {
            alike += word.matches(row.replace('?', '.')) ? 1 : 0;
        }
        return alike;
    }

    int out(int i) {
        return i >= 0 && i < out.length() ? out.charAt(i) : -7;
    }

    int book(int n) {
        if (!onTape(n)) {
            return no(2);
        }
        String word = withoutBlanksRound(take(n));
        if (!word.matches("[a-z]{1,12}")) {
            return no(2);
        }
        if (now.book.size() == 40) {
            return no(3);
        }
        act().book.add(word);
        return now.book.size();
    }

    // ---- the hunt

    int team() {
        if (now.starts.size() == 8) {
            return no(3);
        }
        act().starts.add(now.minute);
        return now.starts.size() - 1;
    }

    int pass(int minutes) {
        if (minutes < 1 || minutes > 1000 || now.minute + minutes > 9999) {
            return no(2);
        }
        act().minute += minutes;
        return now.minute;
    }

    private boolean isOpen(int riddle, int solved, int minute) {
        String rule = now.riddles.get(riddle).rule;
        return rule == null || Machine.holds(rule, fact -> holds(fact, solved, minute));
    }

    private boolean holds(String[] fact, int solved, int minute) {
        int number = Integer.parseInt(fact[1]);
        switch (fact[0]) {
            case "riddle":
                return (solved >> number & 1) == 1;
            case "minute":
                return minute >= number;
            case "solved":
                return Integer.bitCount(solved) >= number;
            default:
                int of = 0;
                for (int r = 0; r < now.riddles.size(); r++) {
                    of += (solved >> r & 1) == 1 && now.riddles.get(r).round == number ? 1 : 0;
                }
                return of >= Integer.parseInt(fact[2]);
        }
    }

    private int solved(int team, int minute) {
        int bits = 0;
        for (Event event : now.events) {
            if (event.team == team && event.what == 1 && event.minute <= minute) {
                bits |= 1 << event.riddle;
            }
        }
        return bits;
    }

    private int latest(int team, int minute) {
        int latest = now.starts.get(team);
        for (Event event : now.events) {
            if (event.team == team && event.what == 1 && event.minute <= minute) {
                latest = event.minute;
            }
        }
        return latest;
    }

    private int prices(int team, int minute) {
        int prices = 0;
        for (Event event : now.events) {
            if (event.team == team && event.what == 3 && event.minute <= minute) {
                prices += event.number;
            }
        }
        return prices;
    }

    int open(int team, int riddle) {
        if (!isTeam(team) || !isRiddle(riddle)) {
            return no(1);
        }
        trouble = 0;
        return isOpen(riddle, solved(team, now.minute), now.minute) ? 1 : 0;
    }

    int guess(int team, int riddle, int n) {
        if (!isTeam(team) || !isRiddle(riddle)) {
            return no(1);
        }
        if (!onTape(n)) {
            return no(2);
        }
        String guess = take(n);
        int solved = solved(team, now.minute);
        if (!isOpen(riddle, solved, now.minute)) {
            return no(5);
        }
        if ((solved >> riddle & 1) == 1) {
            return no(6);
        }
        if (told(team, riddle, 3) > now.minute) {
            return no(7);
        }
        int verdict = verdict(riddle, guess);
        act().events.add(new Event(now.minute, team, riddle, verdict, now.minute + now.riddles.get(riddle).lock));
        return verdict;
    }

    int buy(int team, int riddle) {
        if (!isTeam(team) || !isRiddle(riddle)) {
            return no(1);
        }
        int solved = solved(team, now.minute);
        if (!isOpen(riddle, solved, now.minute)) {
            return no(5);
        }
        if ((solved >> riddle & 1) == 1) {
            return no(6);
        }
        int next = told(team, riddle, 2);
        List<int[]> hints = now.riddles.get(riddle).hints;
        if (next == hints.size() || now.minute - latest(team, now.minute) < hints.get(next)[0]) {
            return no(8);
        }
        act().events.add(new Event(now.minute, team, riddle, 3, hints.get(next)[1]));
        return next;
    }

    int teamOf(int team, int what) {
        if (!isTeam(team)) {
            return NONE;
        }
        int wrong = 0;
        for (Event event : now.events) {
            wrong += event.team == team && (event.what == 0 || event.what == 2) ? 1 : 0;
        }
        int solved = solved(team, now.minute);
        int latest = latest(team, now.minute);
        int prices = prices(team, now.minute);
        int[] all = {now.starts.get(team), Integer.bitCount(solved), latest + prices, now.minute - latest, prices,
            wrong, solved};
        return what >= 0 && what < all.length ? all[what] : NONE;
    }

    int told(int team, int riddle, int what) {
        if (!isTeam(team) || !isRiddle(riddle) || what < 0 || what > 3) {
            return NONE;
        }
        int[] all = {NONE, 0, 0, 0};
        for (Event event : now.events) {
            if (event.team == team && event.riddle == riddle) {
                all[0] = event.what == 1 ? event.minute : all[0];
                all[1] += event.what != 3 ? 1 : 0;
                all[2] += event.what == 3 ? 1 : 0;
                all[3] = event.what == 0 || event.what == 2 ? event.number : all[3];
            }
        }
        return all[what];
    }

    int rank(int i, int minute) {
        if (minute < 0 || minute > now.minute) {
            return NONE;
        }
        List<Integer> teams = new ArrayList<>();
        for (int t = 0; t < now.starts.size(); t++) {
            if (now.starts.get(t) <= minute) {
                teams.add(t);
            }
        }
        int last = last();
        teams.sort(Comparator
            .comparing((Integer t) -> last >= 0 && (solved(t, minute) >> last & 1) == 1 ? 0 : 1)
            .thenComparing(t -> -Integer.bitCount(solved(t, minute)))
            .thenComparing(t -> latest(t, minute) + prices(t, minute))
            .thenComparing(t -> t));
        return i >= 0 && i < teams.size() ? teams.get(i) : NONE;
    }

    // ---- all that rules let come

    /** Null if there are more than 1,000. */
    private List<Integer> states(State of, int minute) {
        LinkedHashSet<Integer> met = new LinkedHashSet<>(List.of(0));
        List<Integer> order = new ArrayList<>(met);
        for (int k = 0; k < order.size(); k++) {
            for (int r = 0; r < of.riddles.size(); r++) {
                int more = order.get(k) | 1 << r;
                if (isOpen(r, order.get(k), minute) && met.add(more)) {
                    order.add(more);
                    if (order.size() > 1000) {
                        return null;
                    }
                }
            }
        }
        return order;
    }

    private boolean reaches(int state, int last, int minute, Map<Integer, Boolean> known) {
        Boolean found = known.get(state);
        if (found == null) {
            found = (state >> last & 1) == 1 || isOpen(last, state, minute);
            for (int r = 0; r < now.riddles.size() && !found; r++) {
                found = (state >> r & 1) == 0 && isOpen(r, state, minute)
                    && reaches(state | 1 << r, last, minute, known);
            }
            known.put(state, found);
        }
        return found;
    }

    /** Which: 0 states, 1 shut, 2 shortest, 3 dead. */
    int ways(int which, int minute) {
        if (minute < 0 || minute > 9999) {
            return no(2);
        }
        int last = last();
        if (last == NONE && (which == 1 || which == 2)) {
            return no(9);
        }
        List<Integer> states = states(now, minute);
        if (states == null) {
            return no(10);
        }
        trouble = 0;
        if (which == 0) {
            return states.size();
        }
        return which == 3 ? dead(states, minute) : lastOne(which, states, last, minute);
    }

    private int lastOne(int which, List<Integer> states, int last, int minute) {
        Map<Integer, Boolean> known = new HashMap<>();
        int least = 99;
        for (int state : states) {
            if (which == 1 && !reaches(state, last, minute, known)) {
                return state;
            }
            if (which == 2 && (state >> last & 1) == 0 && isOpen(last, state, minute)) {
                least = Math.min(least, Integer.bitCount(state));
            }
        }
        return least == 99 ? -2 : least;
    }

    private int dead(List<Integer> states, int minute) {
        int dead = 0;
        for (int r = 0; r < now.riddles.size(); r++) {
            boolean open = false;
            for (int state : states) {
                open |= isOpen(r, state, minute);
            }
            dead |= open ? 0 : 1 << r;
        }
        return dead;
    }

    int count(int what) {
        int[] all = {now.riddles.size(), now.starts.size(), now.book.size(), now.minute, before.size(),
            tape.length(), out.length()};
        return what >= 0 && what < all.length ? all[what] : NONE;
    }
}

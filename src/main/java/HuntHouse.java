import java.util.Arrays;
import java.util.NoSuchElementException;

/** A house for a hunt of riddles that open one another; README.md tells how it is used. */
public final class HuntHouse {
    public static final int NONE = -1;

    private static final int MOST_RIDDLES = 20;
    private static final int ROUNDS = 6;
    private static final int MOST_TEAMS = 8;
    private static final int MOST_WORDS = 40;
    private static final int TAPE = 300;
    private static final int FED = 20;
    private static final int WORD_LETTERS = 12;
    private static final int NUMBER_DIGITS = 3;
    private static final int MOST_HINTS = 3;
    private static final int LAST_MINUTE = 9999;
    private static final int MOST_STATES = 1000;
    private static final int MOST_ACTS = 100;
    private static final int ROW_LETTERS = 24;
    private static final int MOST_NESTED = 8;
    private static final int NO_WAY = -2;

    private static final int PLAIN = 0;
    private static final int LAST = 2;

    private static final int WRONG = 0;
    private static final int RIGHT = 1;
    private static final int NEAR = 2;

    // The numbers of TROUBLE.
    private static final int NO_SUCH = 1;
    private static final int BAD_NUMBER = 2;
    private static final int NO_ROOM = 3;
    private static final int FAULTY = 4;
    private static final int NOT_OPEN = 5;
    private static final int IS_SOLVED = 6;
    private static final int WAITS = 7;
    private static final int NO_HINT = 8;
    private static final int OTHER_KIND = 9;
    private static final int MANY_STATES = 10;

    // The numbers of FAULTS.
    private static final int FORM = 1;
    private static final int UNKNOWN = 2;
    private static final int BEYOND = 3;
    private static final int MANY = 4;

    // What the log calls the acts.
    private static final int ACT_RIDDLE = 1;
    private static final int ACT_RULE = 2;
    private static final int ACT_FORM = 3;
    private static final int ACT_WORKING = 4;
    private static final int ACT_PATIENCE = 5;
    private static final int ACT_HINT = 6;
    private static final int ACT_BOOK = 7;
    private static final int ACT_TEAM = 8;
    private static final int ACT_PASS = 9;
    private static final int ACT_GUESS = 10;
    private static final int ACT_BUY = 11;

    // Every instruction of a text that was read is three numbers; a text of 300 bytes
    // makes at most 340 of them (a form of brackets and strokes alone comes nearest).
    private static final int OP = 3;
    private static final int MOST_OPS = 400;

    private final byte[] tape = new byte[TAPE];
    private int fed = 0;
    private final Riddle[] riddles = new Riddle[MOST_RIDDLES];
    private int riddleCount = 0;
    private final int[] rounds = new int[ROUNDS];
    private final Team[] teams = new Team[MOST_TEAMS];
    private int teamCount = 0;
    private final long[] rankKeys = new long[MOST_TEAMS];
    private final Book words = new Book();
    private int now = 0;
    private final Tokens tokens = new Tokens();
    private final Guess heard = new Guess();
    private Row shown = new Row();
    private Row trial = new Row();
    private final Ways ways = new Ways();
    private final Log log = new Log();
    private int refusal = 0;
    private int latestFault = 0;

    public HuntHouse() {
        for (int r = 0; r < MOST_RIDDLES; r++) {
            riddles[r] = new Riddle();
        }
        for (int t = 0; t < MOST_TEAMS; t++) {
            teams[t] = new Team();
        }
    }

    // ---- riddles

    public int feed(int a, int b, int c, int d, int e) {
        if (fed + FED > TAPE) {
            return NONE;
        }
        feedNumber(a);
        feedNumber(b);
        feedNumber(c);
        feedNumber(d);
        feedNumber(e);
        return fed;
    }

    public int riddle(int kind, int round, int n) {
        boolean known = kind >= PLAIN && kind <= LAST && round >= 0 && round < ROUNDS;
        if (!known || !isOnTape(n)) {
            return refuse(BAD_NUMBER);
        }
        takeText(n);
        if (!tokens.isOneWord()) {
            return refuse(BAD_NUMBER);
        }
        if (kind == LAST && lastRiddle() != NONE) {
            return refuse(OTHER_KIND);
        }
        if (riddleCount >= MOST_RIDDLES) {
            return refuse(NO_ROOM);
        }
        int number = riddleCount;
        riddles[number].begin(kind, round, tape, tokens.from, tokens.to);
        riddleCount++;
        rounds[round] |= 1 << number;
        accept(ACT_RIDDLE, number, 0, 0, 0);
        return number;
    }

    public boolean rule(int riddle, int n) {
        if (!isTextFor(riddle, false, n)) {
            return false;
        }
        takeText(n);
        if (!hasRead(Rules.read(tokens, riddleCount))) {
            return false;
        }
        acceptText(ACT_RULE, riddle, riddles[riddle].rule);
        riddles[riddle].rule = tokens.code();
        return true;
    }

    public boolean form(int riddle, int n) {
        if (!isTextFor(riddle, false, n)) {
            return false;
        }
        takeText(n);
        if (!hasRead(Forms.read(tokens))) {
            return false;
        }
        acceptText(ACT_FORM, riddle, riddles[riddle].form);
        riddles[riddle].form = tokens.code();
        return true;
    }

    public boolean working(int riddle, int n) {
        if (!isTextFor(riddle, true, n)) {
            return false;
        }
        takeText(n);
        if (!hasRead(Row.read(tokens, riddle))) {
            return false;
        }
        acceptText(ACT_WORKING, riddle, riddles[riddle].working);
        riddles[riddle].working = tokens.code();
        return true;
    }

    public boolean patience(int riddle, int slack, int lock) {
        if (!isRiddle(riddle)) {
            refusal = NO_SUCH;
            return false;
        }
        if (slack < 0 || slack > 3 || lock < 0 || lock > 60) {
            refusal = BAD_NUMBER;
            return false;
        }
        Riddle one = riddles[riddle];
        accept(ACT_PATIENCE, riddle, one.slack, one.lock, 0);
        one.slack = slack;
        one.lock = lock;
        return true;
    }

    public int hint(int riddle, int minutes, int price) {
        if (!isRiddle(riddle)) {
            return refuse(NO_SUCH);
        }
        if (minutes < 0 || minutes > 999 || price < 0 || price > 999) {
            return refuse(BAD_NUMBER);
        }
        Riddle one = riddles[riddle];
        if (one.hints >= MOST_HINTS) {
            return refuse(NO_ROOM);
        }
        one.hintMinutes[one.hints] = minutes;
        one.hintPrices[one.hints] = price;
        one.hints++;
        accept(ACT_HINT, riddle, 0, 0, 0);
        return one.hints;
    }

    public int fault() {
        return latestFault;
    }

    public int where() {
        return refusal == FAULTY ? tokens.place : NONE;
    }

    public int about(int riddle, int what) {
        if (!isRiddle(riddle)) {
            return NONE;
        }
        Riddle one = riddles[riddle];
        switch (what) {
            case 0: return one.kind;
            case 1: return one.round;
            case 2: return one.letters;
            case 3: return one.slack;
            case 4: return one.lock;
            case 5: return one.hints;
            case 6: return one.rule != null ? 1 : 0;
            case 7: return one.form != null ? 1 : 0;
            case 8: return one.working != null ? 1 : 0;
            default: return NONE;
        }
    }

    // ---- guesses, workings

    public int takes(int riddle, int n) {
        return hasHeard(riddle, n) ? heard.verdict(riddles[riddle]) : NONE;
    }

    public int steps(int riddle, int n) {
        return hasHeard(riddle, n) ? heard.stepsTo(riddles[riddle]) : NONE;
    }

    public int make(int riddle) {
        return without(riddle, 0);
    }

    public int fits(int riddle) {
        if (!isRiddle(riddle)) {
            return refuse(NO_SUCH);
        }
        Riddle one = riddles[riddle];
        if (one.working == null) {
            return refuse(OTHER_KIND);
        }
        refusal = 0;
        boolean made = trial.work(one.working, riddles, 0);
        return made && trial.isAnswerOf(one) ? 1 : 0;
    }

    public int without(int riddle, int unknown) {
        if (!hasWorked(riddle, unknown)) {
            return NONE;
        }
        Row made = trial;
        trial = shown;
        shown = made;
        return shown.size;
    }

    public int follows(int riddle, int unknown) {
        if (!hasWorked(riddle, unknown)) {
            return NONE;
        }
        return words.alike(trial);
    }

    public int out(int i) throws NoSuchElementException {
        if (i < 0 || i >= shown.size || i >= shown.row.length) {
            throw new NoSuchElementException();
        }
        return shown.row[i];
    }

    public int book(int n) {
        if (!isOnTape(n)) {
            return refuse(BAD_NUMBER);
        }
        takeText(n);
        if (!tokens.isOneWord()) {
            return refuse(BAD_NUMBER);
        }
        if (words.size >= MOST_WORDS) {
            return refuse(NO_ROOM);
        }
        words.add(tape, tokens.from, tokens.to);
        accept(ACT_BOOK, 0, 0, 0, 0);
        return words.size;
    }

    // ---- the hunt

    public int team() {
        if (teamCount >= MOST_TEAMS) {
            return refuse(NO_ROOM);
        }
        int number = teamCount;
        teams[number].begin(now);
        teamCount++;
        accept(ACT_TEAM, number, 0, 0, 0);
        return number;
    }

    public int pass(int minutes) {
        if (minutes < 1 || minutes > 1000 || now + minutes > LAST_MINUTE) {
            return refuse(BAD_NUMBER);
        }
        accept(ACT_PASS, minutes, 0, 0, 0);
        now += minutes;
        return now;
    }

    public int open(int team, int riddle) {
        if (!isTeam(team) || !isRiddle(riddle)) {
            return refuse(NO_SUCH);
        }
        refusal = 0;
        return isOpenFor(teams[team], riddle) ? 1 : 0;
    }

    public int guess(int team, int riddle, int n) {
        if (!isTeam(team) || !isRiddle(riddle)) {
            return refuse(NO_SUCH);
        }
        if (!isOnTape(n)) {
            return refuse(BAD_NUMBER);
        }
        hear(n);
        Team guesser = teams[team];
        if (!isOpenFor(guesser, riddle)) {
            return refuse(NOT_OPEN);
        }
        if (guesser.solvedAt[riddle] != NONE) {
            return refuse(IS_SOLVED);
        }
        if (now < guesser.waitsTo[riddle]) {
            return refuse(WAITS);
        }
        int verdict = heard.verdict(riddles[riddle]);
        accept(ACT_GUESS, team, riddle, verdict, guesser.waitsTo[riddle]);
        guesser.guesses[riddle]++;
        if (verdict == RIGHT) {
            guesser.solvedAt[riddle] = now;
        } else {
            guesser.wrong++;
            guesser.waitsTo[riddle] = now + riddles[riddle].lock;
        }
        return verdict;
    }

    public int buy(int team, int riddle) {
        if (!isTeam(team) || !isRiddle(riddle)) {
            return refuse(NO_SUCH);
        }
        Team buyer = teams[team];
        if (!isOpenFor(buyer, riddle)) {
            return refuse(NOT_OPEN);
        }
        if (buyer.solvedAt[riddle] != NONE) {
            return refuse(IS_SOLVED);
        }
        Riddle one = riddles[riddle];
        int next = buyer.bought[riddle];
        if (next >= one.hints || next >= MOST_HINTS) {
            return refuse(NO_HINT);
        }
        if (now - buyer.latestBy(now) < one.hintMinutes[next]) {
            return refuse(NO_HINT);
        }
        accept(ACT_BUY, team, riddle, 0, 0);
        buyer.boughtAt[riddle * MOST_HINTS + next] = now;
        buyer.bought[riddle]++;
        return next;
    }

    public int teamOf(int team, int what) {
        if (!isTeam(team)) {
            return NONE;
        }
        Team one = teams[team];
        switch (what) {
            case 0: return one.start;
            case 1: return Integer.bitCount(one.solvedBy(now));
            case 2: return one.markAt(now, riddles);
            case 3: return now - one.latestBy(now);
            case 4: return one.pricesBy(now, riddles);
            case 5: return one.wrong;
            case 6: return one.solvedBy(now);
            default: return NONE;
        }
    }

    public int told(int team, int riddle, int what) {
        if (!isTeam(team) || !isRiddle(riddle)) {
            return NONE;
        }
        Team one = teams[team];
        switch (what) {
            case 0: return one.solvedAt[riddle];
            case 1: return one.guesses[riddle];
            case 2: return one.bought[riddle];
            case 3: return one.waitsTo[riddle];
            default: return NONE;
        }
    }

    public int rank(int i, int minute) {
        if (i < 0 || minute < 0 || minute > now) {
            return NONE;
        }
        int last = lastRiddle();
        for (int t = 0; t < teamCount && t < MOST_TEAMS; t++) {
            rankKeys[t] = rankKey(t, last, minute);
        }
        for (int t = 0; t < teamCount && t < MOST_TEAMS; t++) {
            if (teams[t].start <= minute && teamsAheadOf(t, minute) == i) {
                return t;
            }
        }
        return NONE;
    }

    // ---- all that rules let come

    public int states(int minute) {
        if (!isMinute(minute)) {
            return refuse(BAD_NUMBER);
        }
        if (!ways.explore(riddles, riddleCount, rounds, minute)) {
            return refuse(MANY_STATES);
        }
        refusal = 0;
        return ways.size;
    }

    public int shut(int minute) {
        int last = exploreToLast(minute);
        return last == NONE ? NONE : ways.firstShut(last);
    }

    public int shortest(int minute) {
        int last = exploreToLast(minute);
        return last == NONE ? NONE : ways.leastAheadOf(last);
    }

    public int dead(int minute) {
        if (states(minute) == NONE) {
            return NONE;
        }
        return ((1 << riddleCount) - 1) & ~ways.everOpen();
    }

    public int undo() {
        if (!log.takeLatest()) {
            return 0;
        }
        if (log.act >= ACT_TEAM) {
            undoInHunt();
        } else {
            undoInHouse();
        }
        return 1;
    }

    public int count(int what) {
        switch (what) {
            case 0: return riddleCount;
            case 1: return teamCount;
            case 2: return words.size;
            case 3: return now;
            case 4: return log.size;
            case 5: return fed;
            case 6: return shown.size;
            default: return NONE;
        }
    }

    public int trouble() {
        return refusal;
    }

    // ---- what the calls share

    private void feedNumber(int number) {
        for (int shift = 24; shift >= 0 && fed < TAPE; shift -= 8) {
            tape[fed] = (byte) (number >> shift);
            fed++;
        }
    }

    private int refuse(int why) {
        refusal = why;
        return NONE;
    }

    private void accept(int act, int a, int b, int c, int d) {
        refusal = 0;
        log.add(act, a, b, c, d);
    }

    private void acceptText(int act, int riddle, Code former) {
        accept(act, riddle, 0, 0, 0);
        log.keepFormer(former);
    }

    private boolean isRiddle(int number) {
        return number >= 0 && number < riddleCount && number < MOST_RIDDLES;
    }

    private boolean isTeam(int number) {
        return number >= 0 && number < teamCount && number < MOST_TEAMS;
    }

    private boolean isMinute(int minute) {
        return minute >= 0 && minute <= LAST_MINUTE;
    }

    private boolean isOnTape(int n) {
        return n >= 0 && n <= fed && n <= TAPE;
    }

    private static boolean isSmall(int sign) {
        return sign >= 'a' && sign <= 'z';
    }

    private int lastRiddle() {
        for (int r = 0; r < riddleCount && r < MOST_RIDDLES; r++) {
            if (riddles[r].kind == LAST) {
                return r;
            }
        }
        return NONE;
    }

    private void hear(int n) {
        heard.hear(tape, n);
        fed = 0;
    }

    private boolean hasHeard(int riddle, int n) {
        if (!isRiddle(riddle)) {
            refusal = NO_SUCH;
            return false;
        }
        if (!isOnTape(n)) {
            refusal = BAD_NUMBER;
            return false;
        }
        hear(n);
        refusal = 0;
        return true;
    }

    private boolean isTextFor(int riddle, boolean isWorking, int n) {
        if (!isRiddle(riddle)) {
            refusal = NO_SUCH;
            return false;
        }
        if (isWorking && riddles[riddle].kind == PLAIN) {
            refusal = OTHER_KIND;
            return false;
        }
        if (!isOnTape(n)) {
            refusal = BAD_NUMBER;
            return false;
        }
        return true;
    }

    private void takeText(int n) {
        tokens.begin(tape, n);
        fed = 0;
    }

    private boolean hasRead(boolean whole) {
        latestFault = whole ? 0 : tokens.fault;
        refusal = whole ? 0 : FAULTY;
        return whole;
    }

    private boolean hasWorked(int riddle, int unknown) {
        if (!isRiddle(riddle)) {
            refusal = NO_SUCH;
            return false;
        }
        Code working = riddles[riddle].working;
        if (working == null || !trial.work(working, riddles, unknown)) {
            refusal = OTHER_KIND;
            return false;
        }
        refusal = 0;
        return true;
    }

    private boolean isOpenFor(Team team, int riddle) {
        return riddles[riddle].isOpen(team.solvedBy(now), now, rounds);
    }

    /** A number that is less for a team that is ahead: last one solved, how many, MARK, number. */
    private long rankKey(int team, int last, int minute) {
        int solved = teams[team].solvedBy(minute);
        long key = last != NONE && (solved >> last & 1) == 1 ? 0 : 1;
        key = (key << 5) + MOST_RIDDLES - Integer.bitCount(solved);
        key = (key << 20) + teams[team].markAt(minute, riddles);
        return (key << 3) + team;
    }

    private int teamsAheadOf(int team, int minute) {
        int ahead = 0;
        for (int t = 0; t < teamCount && t < MOST_TEAMS; t++) {
            if (teams[t].start <= minute && rankKeys[t] < rankKeys[team]) {
                ahead++;
            }
        }
        return ahead;
    }

    private int exploreToLast(int minute) {
        if (!isMinute(minute)) {
            return refuse(BAD_NUMBER);
        }
        int last = lastRiddle();
        if (last == NONE) {
            return refuse(OTHER_KIND);
        }
        return states(minute) == NONE ? NONE : last;
    }

    // An act's numbers are those of things that were there when it was logged, and all
    // that came behind it has been taken back: so they are there still.

    private void undoInHouse() {
        int number = log.a;
        if (log.act == ACT_BOOK) {
            words.size--;
            return;
        }
        if (!isRiddle(number)) {
            return;
        }
        Riddle one = riddles[number];
        switch (log.act) {
            case ACT_RIDDLE:
                riddleCount--;
                rounds[one.round] &= ~(1 << number);
                break;
            case ACT_RULE:
                one.rule = log.former;
                break;
            case ACT_FORM:
                one.form = log.former;
                break;
            case ACT_WORKING:
                one.working = log.former;
                break;
            case ACT_PATIENCE:
                one.slack = log.b;
                one.lock = log.c;
                break;
            default:
                one.hints--;
                break;
        }
    }

    private void undoInHunt() {
        if (log.act == ACT_PASS) {
            now -= log.a;
            return;
        }
        if (!isTeam(log.a)) {
            return;
        }
        Team one = teams[log.a];
        int riddle = log.b;
        if (log.act == ACT_TEAM) {
            teamCount--;
        } else if (isRiddle(riddle) && log.act == ACT_BUY) {
            one.bought[riddle]--;
        } else if (isRiddle(riddle)) {
            one.takeBackGuess(riddle, log.c == RIGHT, log.d);
        }
    }

    /** A text that was read: its instructions, and its bytes, where words of a form stand. */
    private static final class Code {
        final int[] ops;
        final byte[] text;

        Code(int[] ops, byte[] text) {
            this.ops = ops;
            this.text = text;
        }
    }

    private static final class Riddle {
        int kind = PLAIN;
        int round = 0;
        final byte[] answer = new byte[WORD_LETTERS];
        int letters = 0;
        int slack = 0;
        int lock = 0;
        int hints = 0;
        final int[] hintMinutes = new int[MOST_HINTS];
        final int[] hintPrices = new int[MOST_HINTS];
        Code rule = null;
        Code form = null;
        Code working = null;

        /** The word stands from one place of a tape to another; the caller has looked that it is one. */
        void begin(int newKind, int newRound, byte[] tape, int from, int to) {
            kind = newKind;
            round = newRound;
            letters = 0;
            for (int i = from; i >= 0 && i < to && i < tape.length && letters < WORD_LETTERS; i++) {
                answer[letters] = tape[i];
                letters++;
            }
            slack = 0;
            lock = 0;
            hints = 0;
            rule = null;
            form = null;
            working = null;
        }

        boolean isOpen(int solved, int minute, int[] rounds) {
            return rule == null || Rules.holds(rule, solved, minute, rounds);
        }
    }

    private static final class Team {
        int start = 0;
        int wrong = 0;
        final int[] solvedAt = new int[MOST_RIDDLES];
        final int[] guesses = new int[MOST_RIDDLES];
        final int[] bought = new int[MOST_RIDDLES];
        final int[] waitsTo = new int[MOST_RIDDLES];
        final int[] boughtAt = new int[MOST_RIDDLES * MOST_HINTS];

        void begin(int minute) {
            start = minute;
            wrong = 0;
            Arrays.fill(solvedAt, NONE);
            Arrays.fill(guesses, 0);
            Arrays.fill(bought, 0);
            Arrays.fill(waitsTo, 0);
        }

        int solvedBy(int minute) {
            int solved = 0;
            for (int r = 0; r < MOST_RIDDLES; r++) {
                if (solvedAt[r] != NONE && solvedAt[r] <= minute) {
                    solved |= 1 << r;
                }
            }
            return solved;
        }

        int latestBy(int minute) {
            int latest = start;
            for (int r = 0; r < MOST_RIDDLES; r++) {
                if (solvedAt[r] <= minute && solvedAt[r] > latest) {
                    latest = solvedAt[r];
                }
            }
            return latest;
        }

        int pricesBy(int minute, Riddle[] riddles) {
            int prices = 0;
            for (int r = 0; r < MOST_RIDDLES && r < riddles.length; r++) {
                for (int h = 0; h < bought[r] && h < MOST_HINTS; h++) {
                    if (boughtAt[r * MOST_HINTS + h] <= minute) {
                        prices += riddles[r].hintPrices[h];
                    }
                }
            }
            return prices;
        }

        int markAt(int minute, Riddle[] riddles) {
            return latestBy(minute) + pricesBy(minute, riddles);
        }

        void takeBackGuess(int riddle, boolean wasRight, int waitedTo) {
            if (riddle < 0 || riddle >= MOST_RIDDLES) {
                return;
            }
            guesses[riddle]--;
            if (wasRight) {
                solvedAt[riddle] = NONE;
            } else {
                wrong--;
                waitsTo[riddle] = waitedTo;
            }
        }
    }

    private static final class Book {
        final byte[] letters = new byte[MOST_WORDS * WORD_LETTERS];
        final int[] lengths = new int[MOST_WORDS];
        int size = 0;

        void add(byte[] tape, int from, int to) {
            if (size < 0 || size >= MOST_WORDS) {
                return;
            }
            int length = 0;
            for (int i = from; i >= 0 && i < to && i < tape.length && length < WORD_LETTERS; i++) {
                letters[size * WORD_LETTERS + length] = tape[i];
                length++;
            }
            lengths[size] = length;
            size++;
        }

        int alike(Row row) {
            int found = 0;
            for (int w = 0; w < size && w < MOST_WORDS; w++) {
                if (isAlike(w, row)) {
                    found++;
                }
            }
            return found;
        }

        private boolean isAlike(int word, Row row) {
            if (lengths[word] != row.size) {
                return false;
            }
            for (int i = 0; i < row.size && i < WORD_LETTERS; i++) {
                if (row.row[i] != '?' && row.row[i] != letters[word * WORD_LETTERS + i]) {
                    return false;
                }
            }
            return true;
        }
    }

    /** The tokens of a text, one at a time; its first fault; the instructions made of it. */
    private static final class Tokens {
        private static final int END = 0;
        private static final int NO_TOKEN = 1;
        private static final int WORD = 2;
        private static final int NUMBER = 3;
        private static final int SIGN = 4;

        private byte[] text = new byte[0];
        private int length = 0;
        private int sort = END;
        /** Of a number what it is, of a sign its byte. */
        int value = 0;
        int from = 0;
        int to = 0;
        int fault = 0;
        int place = 0;
        /** How many there are of what the text may have only so many of. */
        int counted = 0;
        private final int[] ops = new int[MOST_OPS * OP];
        int size = 0;

        void begin(byte[] bytes, int n) {
            text = bytes;
            length = n < 0 ? 0 : Math.min(n, bytes.length);
            to = 0;
            fault = 0;
            place = 0;
            counted = 0;
            size = 0;
            next();
        }

        void next() {
            int at = to;
            while (at < length && text[at] == ' ') {
                at++;
            }
            from = at;
            if (at >= length) {
                to = at;
                sort = END;
                return;
            }
            int kind = sortOf(text[at]);
            if (kind == SIGN) {
                value = text[at];
                to = at + 1;
                sort = SIGN;
                return;
            }
            value = 0;
            while (at < length && sortOf(text[at]) == kind) {
                value = value * 10 + text[at] - '0';
                at++;
            }
            to = at;
            int most = kind == WORD ? WORD_LETTERS : NUMBER_DIGITS;
            sort = to - from <= most ? kind : NO_TOKEN;
        }

        // Calls stand eight deep here, the most that LANGUAGE.md allows: so isSmall is not called.
        private static int sortOf(int sign) {
            if (sign >= 'a' && sign <= 'z') {
                return WORD;
            }
            return sign >= '0' && sign <= '9' ? NUMBER : SIGN;
        }

        boolean isWord() {
            return sort == WORD;
        }

        /** Whether a word stands here and nothing but blanks behind it. */
        boolean isOneWord() {
            for (int at = to; at < length; at++) {
                if (text[at] != ' ') {
                    return false;
                }
            }
            return sort == WORD;
        }

        boolean isWord(String name) {
            if (sort != WORD || name.length() != to - from) {
                return false;
            }
            for (int i = 0; i < name.length() && from + i < length; i++) {
                if (text[from + i] != name.charAt(i)) {
                    return false;
                }
            }
            return true;
        }

        boolean isSign(char sign) {
            return sort == SIGN && value == sign;
        }

        /** Whether a number of these bounds stands here; without one the fault is noted. */
        boolean isNumber(int least, int most, int faultBeyond) {
            if (sort != NUMBER) {
                return fail(FORM);
            }
            return value >= least && value <= most || fail(faultBeyond);
        }

        boolean isAtEnd() {
            return sort == END || fail(FORM);
        }

        boolean fail(int number) {
            fault = number;
            place = from;
            return false;
        }

        /** One more of what there may be only so many of. */
        boolean countOne(int most) {
            if (counted >= most) {
                return fail(MANY);
            }
            counted++;
            return true;
        }

        int emit(int op, int a, int b) {
            if (size + OP > ops.length) {
                return NONE;
            }
            int at = size;
            ops[at] = op;
            ops[at + 1] = a;
            ops[at + 2] = b;
            size += OP;
            return at;
        }

        void setFirst(int at, int a) {
            if (at >= 0 && at + 1 < size) {
                ops[at + 1] = a;
            }
        }

        /** Jumps to one place are a chain, each naming the one before, until the place is known. */
        void aimChainHere(int chain) {
            int at = chain;
            for (int left = MOST_OPS; left > 0 && at >= 0 && at + 1 < size; left--) {
                int before = ops[at + 1];
                ops[at + 1] = size;
                at = before;
            }
        }

        Code code() {
            return new Code(Arrays.copyOf(ops, size), Arrays.copyOf(text, length));
        }
    }

    /** Rules as instructions over one truth: facts set it, a jump passes over what can't change it. */
    private static final class Rules {
        private static final int MOST_FACTS = 30;
        private static final int MOST_NOTS = 8;

        private static final int SOLVED = 1;
        private static final int RIDDLE = 2;
        private static final int ROUND = 3;
        private static final int MINUTE = 4;
        private static final int NOT = 5;
        private static final int IF_TRUE = 6;
        private static final int IF_FALSE = 7;

        static boolean read(Tokens in, int riddles) {
            return readAny(in, riddles, 0) && in.isAtEnd();
        }

        private static boolean readAny(Tokens in, int riddles, int nested) {
            if (!readAll(in, riddles, nested)) {
                return false;
            }
            int jumps = NONE;
            for (int n = 0; n < TAPE && in.isWord("or"); n++) {
                jumps = in.emit(IF_TRUE, jumps, 0);
                in.next();
                if (!readAll(in, riddles, nested)) {
                    return false;
                }
            }
            in.aimChainHere(jumps);
            return true;
        }

        private static boolean readAll(Tokens in, int riddles, int nested) {
            if (!readOne(in, riddles, nested)) {
                return false;
            }
            int jumps = NONE;
            for (int n = 0; n < TAPE && in.isWord("and"); n++) {
                jumps = in.emit(IF_FALSE, jumps, 0);
                in.next();
                if (!readOne(in, riddles, nested)) {
                    return false;
                }
            }
            in.aimChainHere(jumps);
            return true;
        }

        private static boolean readOne(Tokens in, int riddles, int nested) {
            int nots = 0;
            for (; nots <= MOST_NOTS && in.isWord("not"); nots++) {
                if (nots == MOST_NOTS) {
                    return in.fail(MANY);
                }
                in.next();
            }
            boolean whole = in.isSign('(') ? readNested(in, riddles, nested) : readFact(in, riddles);
            if (whole && (nots & 1) == 1) {
                in.emit(NOT, 0, 0);
            }
            return whole;
        }

        private static boolean readNested(Tokens in, int riddles, int nested) {
            if (nested >= MOST_NESTED) {
                return in.fail(MANY);
            }
            in.next();
            if (!readAny(in, riddles, nested + 1)) {
                return false;
            }
            if (!in.isSign(')')) {
                return in.fail(FORM);
            }
            in.next();
            return true;
        }

        private static boolean readFact(Tokens in, int riddles) {
            int fact = factHere(in);
            if (fact == NONE) {
                return in.fail(FORM);
            }
            if (!in.countOne(MOST_FACTS)) {
                return false;
            }
            in.next();
            int round = 0;
            if (fact == ROUND) {
                if (!in.isNumber(0, ROUNDS - 1, BEYOND)) {
                    return false;
                }
                round = in.value;
                in.next();
            }
            int most = fact == RIDDLE ? riddles - 1 : fact == MINUTE ? LAST_MINUTE : MOST_RIDDLES;
            if (!in.isNumber(0, most, fact == RIDDLE ? UNKNOWN : BEYOND)) {
                return false;
            }
            in.emit(fact, in.value, round);
            in.next();
            return true;
        }

        private static int factHere(Tokens in) {
            if (in.isWord("solved")) {
                return SOLVED;
            }
            if (in.isWord("riddle")) {
                return RIDDLE;
            }
            if (in.isWord("round")) {
                return ROUND;
            }
            return in.isWord("minute") ? MINUTE : NONE;
        }

        static boolean holds(Code rule, int solved, int minute, int[] rounds) {
            int[] ops = rule.ops;
            boolean truth = false;
            int at = 0;
            for (int left = MOST_OPS; left > 0 && at >= 0 && at + OP <= ops.length; left--) {
                int op = ops[at];
                int amount = ops[at + 1];
                int next = at + OP;
                if (op == NOT) {
                    truth = !truth;
                } else if (op == IF_TRUE) {
                    next = truth ? amount : next;
                } else if (op == IF_FALSE) {
                    next = truth ? next : amount;
                } else if (op == MINUTE) {
                    truth = minute >= amount;
                } else if (op == RIDDLE) {
                    truth = (solved >> amount & 1) == 1;
                } else {
                    int among = op == ROUND ? solved & roundAt(rounds, ops[at + 2]) : solved;
                    truth = Integer.bitCount(among) >= amount;
                }
                at = next;
            }
            return truth;
        }

        private static int roundAt(int[] rounds, int round) {
            return round >= 0 && round < rounds.length ? rounds[round] : 0;
        }
    }

    /**
     * Forms as instructions: one behind the other, but a fork goes on at two places and a jump
     * at another; all go forward, so one walk from the first on meets every way.
     */
    private static final class Forms {
        private static final int MOST_FORM_WORDS = 40;
        private static final int MOST_BAG_WORDS = 4;

        static final int WORD = 1;
        static final int MAYBE = 2;
        /** Its words are the instructions right behind it. */
        static final int BAG = 3;
        static final int FORK = 4;
        static final int JUMP = 5;

        static boolean read(Tokens in) {
            return readEither(in, 0) && in.isAtEnd();
        }

        /** A fork goes on right behind it by both ways, until it is aimed elsewhere. */
        private static boolean readEither(Tokens in, int nested) {
            int fork = in.emit(FORK, in.size + OP, 0);
            if (!readRow(in, nested)) {
                return false;
            }
            int jumps = NONE;
            for (int n = 0; n < TAPE && in.isSign('/'); n++) {
                jumps = in.emit(JUMP, jumps, 0);
                in.setFirst(fork, in.size);
                fork = in.emit(FORK, in.size + OP, 0);
                in.next();
                if (!readRow(in, nested)) {
                    return false;
                }
            }
            in.aimChainHere(jumps);
            return true;
        }

        private static boolean readRow(Tokens in, int nested) {
            if (!readPart(in, nested)) {
                return false;
            }
            for (int n = 0; n < TAPE && beginsPart(in); n++) {
                if (!readPart(in, nested)) {
                    return false;
                }
            }
            return true;
        }

        private static boolean beginsPart(Tokens in) {
            return in.isWord() || in.isSign('(') || in.isSign('[');
        }

        private static boolean readPart(Tokens in, int nested) {
            if (in.isSign('(')) {
                return readNested(in, nested);
            }
            return in.isSign('[') ? readBag(in) : readWord(in);
        }

        private static boolean readNested(Tokens in, int nested) {
            if (nested >= MOST_NESTED) {
                return in.fail(MANY);
            }
            in.next();
            int fork = in.emit(FORK, in.size + OP, 0);
            if (!readEither(in, nested + 1)) {
                return false;
            }
            if (!in.isSign(')')) {
                return in.fail(FORM);
            }
            in.next();
            if (in.isSign('?')) {
                in.setFirst(fork, in.size);
                in.next();
            }
            return true;
        }

        private static boolean readWord(Tokens in) {
            if (!in.isWord()) {
                return in.fail(FORM);
            }
            if (!in.countOne(MOST_FORM_WORDS)) {
                return false;
            }
            int from = in.from;
            int to = in.to;
            in.next();
            boolean mayLack = in.isSign('?');
            if (mayLack) {
                in.next();
            }
            in.emit(mayLack ? MAYBE : WORD, from, to);
            return true;
        }

        private static boolean readBag(Tokens in) {
            int bag = in.emit(BAG, 0, 0);
            in.next();
            if (!in.isWord()) {
                return in.fail(FORM);
            }
            int words = 0;
            for (; words <= MOST_BAG_WORDS && in.isWord(); words++) {
                if (words == MOST_BAG_WORDS) {
                    return in.fail(MANY);
                }
                if (!in.countOne(MOST_FORM_WORDS)) {
                    return false;
                }
                in.emit(WORD, in.from, in.to);
                in.next();
            }
            if (!in.isSign(']')) {
                return in.fail(FORM);
            }
            in.setFirst(bag, words);
            in.next();
            return true;
        }
    }

    /** The letters of a guess, and how it stands to answers and forms. */
    private static final class Guess {
        private static final int BLOCKS = TAPE / 64 + 1;
        private static final int BAG_SETS = 16;
        private static final int BAG_AT = MOST_OPS + 1;
        private static final int SETS = BAG_AT + BAG_SETS;

        private final byte[] letters = new byte[TAPE];
        private int size = 0;
        /** A set of places in the guess for each instruction: where one may be when it comes. */
        private final long[] sets = new long[SETS * BLOCKS];
        private final int[] least = new int[WORD_LETTERS + 1];

        void hear(byte[] tape, int n) {
            size = 0;
            for (int i = 0; i < n && i < tape.length && size < TAPE; i++) {
                int small = tape[i] >= 'A' && tape[i] <= 'Z' ? tape[i] + 32 : tape[i];
                if (isSmall(small)) {
                    letters[size] = (byte) small;
                    size++;
                }
            }
        }

        int verdict(Riddle riddle) {
            boolean right = riddle.form == null ? isAnswerOf(riddle) : isTakenBy(riddle.form);
            if (right) {
                return RIGHT;
            }
            return stepsTo(riddle) <= riddle.slack ? NEAR : WRONG;
        }

        private boolean isAnswerOf(Riddle riddle) {
            return size == riddle.letters && isWordAt(0, riddle.answer, 0, riddle.letters);
        }

        private boolean isWordAt(int place, byte[] text, int from, int to) {
            if (place < 0 || from < 0 || to > text.length || place + to - from > size) {
                return false;
            }
            for (int i = from; i < to && place + i - from < TAPE; i++) {
                if (letters[place + i - from] != text[i]) {
                    return false;
                }
            }
            return true;
        }

        /** least[k]: the steps from the letters looked at so far to the answer's first k. */
        int stepsTo(Riddle riddle) {
            int goal = Math.min(riddle.letters, WORD_LETTERS);
            for (int k = 0; k <= goal; k++) {
                least[k] = k;
            }
            for (int i = 0; i < size && i < TAPE; i++) {
                int corner = least[0];
                least[0] = i + 1;
                for (int k = 1; k <= goal; k++) {
                    int changed = corner + (letters[i] == riddle.answer[k - 1] ? 0 : 1);
                    corner = least[k];
                    least[k] = Math.min(changed, Math.min(least[k], least[k - 1]) + 1);
                }
            }
            return goal < 0 ? size : least[goal];
        }

        private boolean isTakenBy(Code form) {
            int rows = form.ops.length / OP;
            if (rows > MOST_OPS) {
                return false;
            }
            Arrays.fill(sets, 0, (rows + 1) * BLOCKS, 0L);
            sets[0] = 1L;
            int row = 0;
            for (int left = MOST_OPS; left > 0 && row < rows; left--) {
                row = walkFrom(row, form);
            }
            return has(rows, size);
        }

        /** Hands on the places of an instruction; the one to walk from next. */
        private int walkFrom(int row, Code form) {
            int a = form.ops[row * OP + 1];
            int b = form.ops[row * OP + 2];
            switch (form.ops[row * OP]) {
                case Forms.WORD:
                    walkWord(row, row + 1, form.text, a, b);
                    return row + 1;
                case Forms.MAYBE:
                    walkWord(row, row + 1, form.text, a, b);
                    join(row, row + 1);
                    return row + 1;
                case Forms.FORK:
                    join(row, row + 1);
                    join(row, a / OP);
                    return row + 1;
                case Forms.JUMP:
                    join(row, a / OP);
                    return row + 1;
                default:
                    walkBag(row, a, form);
                    return row + 1 + a;
            }
        }

        /** One set for each choice of words that have stood already; a choice grows, so in order. */
        private void walkBag(int row, int words, Code form) {
            int all = (1 << words) - 1;
            if (all < 0 || all >= BAG_SETS || (row + 1 + words) * OP > form.ops.length) {
                return;
            }
            Arrays.fill(sets, BAG_AT * BLOCKS, SETS * BLOCKS, 0L);
            join(row, BAG_AT);
            for (int stood = 0; stood < all; stood++) {
                for (int w = 0; w < words; w++) {
                    if ((stood >> w & 1) == 0) {
                        int at = (row + 1 + w) * OP;
                        int after = BAG_AT + (stood | 1 << w);
                        walkWord(BAG_AT + stood, after, form.text, form.ops[at + 1], form.ops[at + 2]);
                    }
                }
            }
            join(BAG_AT + all, row + 1 + words);
        }

        private void walkWord(int row, int after, byte[] text, int from, int to) {
            if (isEmpty(row)) {
                return;
            }
            for (int place = 0; place + to - from <= size; place++) {
                if (has(row, place) && isWordAt(place, text, from, to)) {
                    put(after, place + to - from);
                }
            }
        }

        private boolean isEmpty(int row) {
            for (int k = 0; k < BLOCKS && row >= 0 && row < SETS; k++) {
                if (sets[row * BLOCKS + k] != 0L) {
                    return false;
                }
            }
            return true;
        }

        private boolean has(int row, int place) {
            if (row < 0 || row >= SETS || place < 0 || place > TAPE) {
                return false;
            }
            return (sets[row * BLOCKS + (place >> 6)] >>> (place & 63) & 1L) == 1L;
        }

        private void put(int row, int place) {
            if (row >= 0 && row < SETS && place >= 0 && place <= TAPE) {
                sets[row * BLOCKS + (place >> 6)] |= 1L << (place & 63);
            }
        }

        private void join(int row, int into) {
            if (row < 0 || row >= SETS || into < 0 || into >= SETS) {
                return;
            }
            for (int k = 0; k < BLOCKS; k++) {
                sets[into * BLOCKS + k] |= sets[row * BLOCKS + k];
            }
        }
    }

    /** A row of letters as a working makes it, and how the texts of workings are read. */
    private static final class Row {
        private static final int MOST_STEPS = 12;
        private static final int MOST_TAKEN = 12;
        private static final int LETTERS = 26;

        private static final int TAKE = 1;
        private static final int ALL = 2;
        private static final int SHIFT = 3;
        private static final int BACK = 4;
        private static final int SORT = 5;
        private static final int CUT = 6;
        private static final int EACH = 7;

        final byte[] row = new byte[ROW_LETTERS];
        int size = 0;

        static boolean read(Tokens in, int own) {
            if (!readStep(in, own)) {
                return false;
            }
            for (int n = 0; n < TAPE && in.isSign(';'); n++) {
                in.next();
                if (!readStep(in, own)) {
                    return false;
                }
            }
            return in.isAtEnd();
        }

        private static boolean readStep(Tokens in, int own) {
            int step = stepHere(in);
            if (step == NONE) {
                return in.fail(FORM);
            }
            if (!in.countOne(MOST_STEPS)) {
                return false;
            }
            in.next();
            if (step == TAKE) {
                return readTake(in, own);
            }
            if (step == BACK || step == SORT) {
                in.emit(step, 0, 0);
                return true;
            }
            if (!isStepNumber(in, step, own)) {
                return false;
            }
            in.emit(step, in.value, 0);
            in.next();
            return true;
        }

        private static int stepHere(Tokens in) {
            if (in.isWord("take")) {
                return TAKE;
            }
            if (in.isWord("all")) {
                return ALL;
            }
            if (in.isWord("shift")) {
                return SHIFT;
            }
            if (in.isWord("back")) {
                return BACK;
            }
            if (in.isWord("sort")) {
                return SORT;
            }
            if (in.isWord("cut")) {
                return CUT;
            }
            return in.isWord("each") ? EACH : NONE;
        }

        private static boolean isStepNumber(Tokens in, int step, int own) {
            if (step == ALL) {
                return in.isNumber(0, own - 1, UNKNOWN);
            }
            if (step == SHIFT) {
                return in.isNumber(0, LETTERS - 1, BEYOND);
            }
            return in.isNumber(1, ROW_LETTERS, BEYOND);
        }

        private static boolean readTake(Tokens in, int own) {
            boolean more = true;
            for (int taken = 0; taken <= MOST_TAKEN && more; taken++) {
                // A place beyond its bounds is told ahead of one too many: of one place the least fault.
                if (!in.isNumber(1, WORD_LETTERS, BEYOND)) {
                    return false;
                }
                if (taken == MOST_TAKEN) {
                    return in.fail(MANY);
                }
                int place = in.value;
                in.next();
                if (!in.isWord("of")) {
                    return in.fail(FORM);
                }
                in.next();
                if (!in.isNumber(0, own - 1, UNKNOWN)) {
                    return false;
                }
                in.emit(TAKE, in.value, place);
                in.next();
                more = in.isSign(',');
                if (more) {
                    in.next();
                }
            }
            return true;
        }

        /** Makes the row anew by a working, riddles of these bits unknown; false if it is BROKEN. */
        boolean work(Code working, Riddle[] riddles, int unknown) {
            size = 0;
            int[] ops = working.ops;
            for (int at = 0; at + OP <= ops.length; at += OP) {
                if (!workStep(ops[at], ops[at + 1], ops[at + 2], riddles, unknown)) {
                    return false;
                }
            }
            return true;
        }

        private boolean workStep(int step, int a, int place, Riddle[] riddles, int unknown) {
            switch (step) {
                case TAKE:
                    return append(riddles, a, place - 1, place, unknown);
                case ALL:
                    return append(riddles, a, 0, lettersOf(riddles, a), unknown);
                case SHIFT:
                    shift(a);
                    return true;
                case BACK:
                    turn();
                    return true;
                case SORT:
                    sort();
                    return true;
                case CUT:
                    size = Math.min(size, a);
                    return true;
                default:
                    keepEach(a);
                    return true;
            }
        }

        private static int lettersOf(Riddle[] riddles, int riddle) {
            return riddle >= 0 && riddle < riddles.length ? riddles[riddle].letters : 0;
        }

        private boolean append(Riddle[] riddles, int riddle, int from, int to, int unknown) {
            if (from < 0 || to > WORD_LETTERS || to > lettersOf(riddles, riddle)) {
                return false;
            }
            if (size + to - from > ROW_LETTERS) {
                return false;
            }
            boolean known = (unknown >> riddle & 1) == 0;
            for (int i = from; i < to; i++) {
                row[size] = known ? riddles[riddle].answer[i] : (byte) '?';
                size++;
            }
            return true;
        }

        private void shift(int by) {
            for (int i = 0; i < size; i++) {
                if (row[i] != '?') {
                    row[i] = (byte) ('a' + (row[i] - 'a' + by) % LETTERS);
                }
            }
        }

        private void turn() {
            for (int i = 0, j = size - 1; i < j; i++, j--) {
                byte kept = row[i];
                row[i] = row[j];
                row[j] = kept;
            }
        }

        private void sort() {
            if (hasUnknown()) {
                Arrays.fill(row, (byte) '?');
                return;
            }
            for (int i = 1; i < size; i++) {
                byte moved = row[i];
                int at = i;
                for (; at > 0 && row[at - 1] > moved; at--) {
                    row[at] = row[at - 1];
                }
                row[at] = moved;
            }
        }

        private boolean hasUnknown() {
            for (int i = 0; i < size; i++) {
                if (row[i] == '?') {
                    return true;
                }
            }
            return false;
        }

        private void keepEach(int nth) {
            int kept = 0;
            for (int i = nth - 1; nth > 0 && i < size; i += nth) {
                row[kept] = row[i];
                kept++;
            }
            size = kept;
        }

        boolean isAnswerOf(Riddle riddle) {
            if (size != riddle.letters) {
                return false;
            }
            for (int i = 0; i < size && i < WORD_LETTERS; i++) {
                if (row[i] != riddle.answer[i]) {
                    return false;
                }
            }
            return true;
        }
    }

    /** All states that rules let come, in the order in which they are met. */
    private static final class Ways {
        private static final int SLOTS = 2048;
        private static final int SPREAD = 0x9E3779B1;

        private final int[] solved = new int[MOST_STATES];
        private final int[] opened = new int[MOST_STATES];
        private final boolean[] leads = new boolean[MOST_STATES];
        /** For a state its number and one, at the first free slot from its own on. */
        private final int[] slots = new int[SLOTS];
        int size = 0;

        /** False if there are more states than may be. */
        boolean explore(Riddle[] riddles, int count, int[] rounds, int minute) {
            Arrays.fill(slots, 0);
            size = 0;
            meet(0);
            for (int s = 0; s < size && s < MOST_STATES; s++) {
                opened[s] = 0;
                for (int r = 0; r < count && r < riddles.length; r++) {
                    if (riddles[r].isOpen(solved[s], minute, rounds)) {
                        opened[s] |= 1 << r;
                        if (!meet(solved[s] | 1 << r)) {
                            return false;
                        }
                    }
                }
            }
            return true;
        }

        private boolean meet(int state) {
            int slot = slotOf(state);
            if (slots[slot] != 0) {
                return true;
            }
            if (size >= MOST_STATES) {
                return false;
            }
            solved[size] = state;
            size++;
            slots[slot] = size;
            return true;
        }

        /** The slot of a state, or the free one where it would be; half of them are always free. */
        private int slotOf(int state) {
            int slot = state * SPREAD >>> 21;
            for (int left = SLOTS; left > 0 && isOfAnother(slot, state); left--) {
                slot = slot + 1 & SLOTS - 1;
            }
            return slot;
        }

        private boolean isOfAnother(int slot, int state) {
            int number = slots[slot] - 1;
            return number >= 0 && number < MOST_STATES && solved[number] != state;
        }

        /** States grow by each way, so all that one leads to stand behind it. */
        int firstShut(int last) {
            int shut = NO_WAY;
            for (int s = Math.min(size, MOST_STATES) - 1; s >= 0; s--) {
                boolean isThere = ((opened[s] | solved[s]) >> last & 1) == 1;
                leads[s] = isThere || leadsOn(s);
                if (!leads[s]) {
                    shut = solved[s];
                }
            }
            return shut;
        }

        private boolean leadsOn(int state) {
            int ways = opened[state] & ~solved[state];
            for (int r = 0; r < MOST_RIDDLES; r++) {
                if ((ways >> r & 1) == 1) {
                    int number = slots[slotOf(solved[state] | 1 << r)] - 1;
                    if (number >= 0 && number < MOST_STATES && leads[number]) {
                        return true;
                    }
                }
            }
            return false;
        }

        /** Smaller states are met first: the first that has the last one open needs the least. */
        int leastAheadOf(int last) {
            for (int s = 0; s < size && s < MOST_STATES; s++) {
                if ((opened[s] >> last & 1) == 1) {
                    return Integer.bitCount(solved[s]);
                }
            }
            return NO_WAY;
        }

        int everOpen() {
            int open = 0;
            for (int s = 0; s < size && s < MOST_STATES; s++) {
                open |= opened[s];
            }
            return open;
        }
    }

    /** The latest acts, with what is needed to take them back; older ones give way. */
    private static final class Log {
        private static final int WIDE = 5;

        private final int[] acts = new int[MOST_ACTS * WIDE];
        private final Code[] formers = new Code[MOST_ACTS];
        private int top = 0;
        int size = 0;

        int act = 0;
        int a = 0;
        int b = 0;
        int c = 0;
        int d = 0;
        Code former = null;

        void add(int newAct, int newA, int newB, int newC, int newD) {
            int at = top * WIDE;
            if (at < 0 || at + WIDE > acts.length) {
                return;
            }
            acts[at] = newAct;
            acts[at + 1] = newA;
            acts[at + 2] = newB;
            acts[at + 3] = newC;
            acts[at + 4] = newD;
            formers[top] = null;
            top = top + 1 < MOST_ACTS ? top + 1 : 0;
            size = Math.min(size + 1, MOST_ACTS);
        }

        /** The text that the act just added stands in place of. */
        void keepFormer(Code text) {
            int at = top > 0 ? top - 1 : MOST_ACTS - 1;
            if (at < MOST_ACTS) {
                formers[at] = text;
            }
        }

        /** The latest act comes out of the log into its fields. */
        boolean takeLatest() {
            if (size <= 0) {
                return false;
            }
            size--;
            top = top > 0 ? top - 1 : MOST_ACTS - 1;
            int at = top * WIDE;
            if (at + WIDE > acts.length) {
                return false;
            }
            act = acts[at];
            a = acts[at + 1];
            b = acts[at + 2];
            c = acts[at + 3];
            d = acts[at + 4];
            former = formers[top];
            return true;
        }
    }
}

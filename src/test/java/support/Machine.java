import java.util.ArrayList;
import java.util.HashMap;
import java.util.List;
import java.util.Map;
import java.util.function.Predicate;

/** The texts of the model: tokens, faults by a machine of what may come next, forms as expressions. */
final class Machine {
    record Token(String text, int place, char sort) { }

    // What was worked out once is kept: the model asks for the same again and again.
    private static final Map<String, List<Token>> TOKENS = new HashMap<>();
    private static final Map<String, Boolean> WORN = new HashMap<>();

    private Machine() { }

    /** Sorts: w a word, n a number, s another sign, x none, e the end. */
    static List<Token> tokens(String text) {
        List<Token> all = new ArrayList<>();
        int at = 0;
        while (at < text.length()) {
            char first = text.charAt(at);
            int end = at + 1;
            if (first == ' ') {
                at = end;
                continue;
            }
            char sort = 's';
            String run = first >= 'a' && first <= 'z' ? "[a-z]" : first >= '0' && first <= '9' ? "[0-9]" : null;
            if (run != null) {
                while (end < text.length() && text.substring(end, end + 1).matches(run)) {
                    end++;
                }
                int most = run.equals("[a-z]") ? 12 : 3;
                sort = end - at > most ? 'x' : run.equals("[a-z]") ? 'w' : 'n';
            }
            all.add(new Token(text.substring(at, end), at, sort));
            at = end;
        }
        all.add(new Token("", text.length(), 'e'));
        return all;
    }

    /** The fault (0: none) and its place. */
    static int[] fault(char which, String text, int riddles, int own) {
        Next next = which == 'r' ? new RuleNext(riddles) : which == 'f' ? new FormNext() : new WorkNext(own);
        for (Token token : tokens(text)) {
            int fault = token.sort == 'x' ? 1 : next.meets(token);
            if (fault != 0) {
                return new int[] {fault, token.place};
            }
        }
        return new int[] {0, -1};
    }

    /** What may come next; meets tells the fault of a token that comes, 0 if it may. */
    private interface Next {
        int meets(Token token);
    }

    private static int number(Token token, int least, int most, int fault) {
        if (token.sort != 'n') {
            return 1;
        }
        int value = Integer.parseInt(token.text);
        return value < least || value > most ? fault : 0;
    }

    private static final class RuleNext implements Next {
        private final int riddles;
        private String awaits = "one";
        private int open = 0;
        private int nots = 0;
        private int facts = 0;

        RuleNext(int riddles) {
            this.riddles = riddles;
        }

        @Override
        public int meets(Token token) {
            switch (awaits) {
                case "one":
                    return meetsOne(token);
                case "join":
                    return meetsJoin(token);
                case "round":
                    awaits = "solved";
                    return number(token, 0, 5, 3);
                case "riddle":
                    awaits = "join";
                    return number(token, 0, riddles - 1, 2);
                default:
                    int most = awaits.equals("minute") ? 999 : 20;
                    awaits = "join";
                    return number(token, 0, most, 3);
            }
        }

        private int meetsOne(Token token) {
            if (token.text.equals("not")) {
                return nots++ == 8 ? 4 : 0;
            }
            nots = 0;
            if (token.text.equals("(")) {
                return open++ == 8 ? 4 : 0;
            }
            if (!List.of("solved", "riddle", "round", "minute").contains(token.text)) {
                return 1;
            }
            awaits = token.text;
            return facts++ == 30 ? 4 : 0;
        }

        private int meetsJoin(Token token) {
            if (token.text.equals(")")) {
                return open-- > 0 ? 0 : 1;
            }
            if (token.sort == 'e') {
                return open == 0 ? 0 : 1;
            }
            awaits = "one";
            return token.text.equals("or") || token.text.equals("and") ? 0 : 1;
        }
    }

    private static final class FormNext implements Next {
        private char before = '/';
        private int open = 0;
        private int words = 0;
        private int bag = 0;

        /** Before: the sign before, w a word, ? also that, ) ] and b a word of [ ]. */
        @Override
        public int meets(Token token) {
            char sign = token.sort == 'w' ? 'w' : token.sort == 'e' ? 'e' : token.text.charAt(0);
            if (before == '[' || before == 'b') {
                return meetsInBag(sign);
            }
            boolean mayEnd = before != '/' && before != '(';
            char former = before;
            before = sign;
            switch (sign) {
                case 'w':
                    return words++ == 40 ? 4 : 0;
                case '(':
                    return open++ == 8 ? 4 : 0;
                case '[':
                    bag = 0;
                    return 0;
                case '/':
                    return mayEnd ? 0 : 1;
                case ')':
                    return mayEnd && open-- > 0 ? 0 : 1;
                case '?':
                    return former == 'w' || former == ')' ? 0 : 1;
                case 'e':
                    return mayEnd && open == 0 ? 0 : 1;
                default:
                    return 1;
            }
        }

        private int meetsInBag(char sign) {
            if (sign == 'w') {
                before = 'b';
                bag++;
                words++;
                return bag > 4 || words > 40 ? 4 : 0;
            }
            boolean ends = sign == ']' && before == 'b';
            before = ']';
            return ends ? 0 : 1;
        }
    }

    private static final class WorkNext implements Next {
        private final int own;
        private String awaits = "step";
        private int steps = 0;
        private int taken = 0;

        WorkNext(int own) {
            this.own = own;
        }

        @Override
        public int meets(Token token) {
            String awaited = awaits;
            switch (awaited) {
                case "step":
                    return meetsStep(token);
                case "take":
                    awaits = "of";
                    taken++;
                    int fault = number(token, 1, 12, 3);
                    return fault == 0 && taken > 12 ? 4 : fault;
                case "of":
                    awaits = "from";
                    return token.text.equals("of") ? 0 : 1;
                case "from":
                case "all":
                    awaits = awaited.equals("all") ? "end" : "more";
                    return number(token, 0, own - 1, 2);
                case "shift":
                    awaits = "end";
                    return number(token, 0, 25, 3);
                case "cut":
                case "each":
                    awaits = "end";
                    return number(token, 1, 24, 3);
                default:
                    return meetsEnd(token, awaited.equals("more"));
            }
        }

        private int meetsStep(Token token) {
            if (!List.of("take", "all", "shift", "back", "sort", "cut", "each").contains(token.text)) {
                return 1;
            }
            awaits = token.text.equals("back") || token.text.equals("sort") ? "end" : token.text;
            taken = 0;
            return steps++ == 12 ? 4 : 0;
        }

        private int meetsEnd(Token token, boolean mayBeMore) {
            if (token.sort == 'e') {
                return 0;
            }
            if (mayBeMore && token.text.equals(",")) {
                awaits = "take";
                return 0;
            }
            awaits = "step";
            return token.text.equals(";") ? 0 : 1;
        }
    }

    // ---- forms

    static String regex(String form) {
        StringBuilder made = new StringBuilder();
        List<String> bag = null;
        for (Token token : tokens(form)) {
            if (token.text.equals("[")) {
                bag = new ArrayList<>();
            } else if (token.text.equals("]")) {
                made.append("(?:").append(orders("", bag)).append(")");
                bag = null;
            } else if (bag != null) {
                bag.add(token.text);
            } else if (token.sort == 'w') {
                made.append("(?:").append(token.text).append(")");
            } else {
                made.append(token.text.equals("(") ? "(?:" : token.text.replace('/', '|'));
            }
        }
        return made.toString();
    }

    private static String orders(String before, List<String> words) {
        if (words.isEmpty()) {
            return before;
        }
        List<String> all = new ArrayList<>();
        for (int w = 0; w < words.size(); w++) {
            List<String> others = new ArrayList<>(words);
            others.remove(w);
            all.add(orders(before + words.get(w), others));
        }
        return String.join("|", all);
    }

    // ---- rules

    /** Facts become T and F; then what stands at the innermost is worn down until one sign is left. */
    static boolean holds(String rule, Predicate<String[]> fact) {
        StringBuilder signs = new StringBuilder();
        List<Token> tokens = TOKENS.computeIfAbsent(rule, Machine::tokens);
        for (int k = 0; k < tokens.size(); k++) {
            String text = tokens.get(k).text;
            switch (text) {
                case "not" -> signs.append('!');
                case "and" -> signs.append('&');
                case "or" -> signs.append('|');
                case "round" -> {
                    String[] words = {text, tokens.get(k + 1).text, tokens.get(k + 2).text};
                    signs.append(fact.test(words) ? 'T' : 'F');
                    k += 2;
                }
                case "solved", "riddle", "minute" -> {
                    signs.append(fact.test(new String[] {text, tokens.get(k + 1).text}) ? 'T' : 'F');
                    k++;
                }
                default -> signs.append(text);
            }
        }
        return WORN.computeIfAbsent(signs.toString(), Machine::wornDown);
    }

    private static boolean wornDown(String signs) {
        String row = signs;
        while (row.length() > 1) {
            String before = row;
            row = row.replace("(T)", "T").replace("(F)", "F").replace("!T", "F").replace("!F", "T");
            if (row.equals(before)) {
                row = row.replaceFirst("(?<!!)T&T", "T");
            }
            if (row.equals(before)) {
                row = row.replaceFirst("(?<!!)(F&[TF]|T&F)", "F");
            }
            if (row.equals(before)) {
                row = row.replaceFirst("(?<![!&])F\\|F(?!&)", "F");
            }
            if (row.equals(before)) {
                row = row.replaceFirst("(?<![!&])(T\\|[TF]|F\\|T)(?!&)", "T");
            }
            if (row.equals(before)) {
                throw new IllegalStateException("not worn down: " + row);
            }
        }
        return row.equals("T");
    }
}

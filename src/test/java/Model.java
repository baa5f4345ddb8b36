import java.util.ArrayList;
import java.util.Arrays;
import java.util.HashMap;
import java.util.HashSet;
import java.util.List;
import java.util.Map;
import java.util.Set;

/**
 * The document once more, written as differently as can be from the program: the grammar is a table and its
 * beginnings are found by following all its derivations, distances are found by asking each step for its best
 * followers, sums are reckoned from the tokens in 64 bits and cut.
 */
final class Model {
    private static final Set<String> KEYWORDS = new HashSet<>(Arrays.asList(("word is hold for glide to rest band near "
            + "prune restore shift by when lesson kept distance length of heard pruned not and or min max").split(" ")));
    private static final String[] SYMBOLS = {"<=", ">=", "(", ")", "[", "]", ";", ",", "+", "-", "*", "/", "<", ">", "="};
    // A part with # carries the depth, with #+ a depth 1 greater; what has capitals is told further in the table.
    private static final String[] GRAMMAR = {
        "LANGUAGE =", "LANGUAGE = LINE ; LANGUAGE",
        "LINE = word name is PART PARTS", "LINE = band number", "LINE = near number", "LINE = RULE", "LINE = RULE when TEST#",
        "PARTS =", "PARTS = , PART PARTS",
        "PART = hold number for number", "PART = glide number to number for number", "PART = rest for number",
        "RULE = prune name", "RULE = restore name", "RULE = shift name by SUM#",
        "TEST# = BOTH# BOTHS#", "BOTHS# =", "BOTHS# = or BOTH# BOTHS#",
        "BOTH# = SINGLE# SINGLES#", "SINGLES# =", "SINGLES# = and SINGLE# SINGLES#",
        "SINGLE# = not SINGLE#+", "SINGLE# = [ TEST#+ ]", "SINGLE# = heard name", "SINGLE# = pruned name",
        "SINGLE# = SUM# COMPARE SUM#",
        "COMPARE = <", "COMPARE = >", "COMPARE = =", "COMPARE = <=", "COMPARE = >=",
        "SUM# = PRODUCT# PRODUCTS#", "PRODUCTS# =", "PRODUCTS# = + PRODUCT# PRODUCTS#", "PRODUCTS# = - PRODUCT# PRODUCTS#",
        "PRODUCT# = VALUE# VALUES#", "VALUES# =", "VALUES# = * VALUE# VALUES#", "VALUES# = / VALUE# VALUES#",
        "VALUE# = number", "VALUE# = lesson", "VALUE# = kept", "VALUE# = distance of name", "VALUE# = length of name",
        "VALUE# = - VALUE#+", "VALUE# = ( SUM#+ )", "VALUE# = min ( SUM#+ , SUM#+ )", "VALUE# = max ( SUM#+ , SUM#+ )",
    };
    private static final Map<String, List<String[]>> TABLE = new HashMap<>();

    static {
        for (String row : GRAMMAR) {
            int split = row.indexOf(" =");
            String rest = row.substring(split + 2).trim();
            TABLE.computeIfAbsent(row.substring(0, split), k -> new ArrayList<>())
                    .add(rest.isEmpty() ? new String[0] : rest.split(" "));
        }
    }

    /** What is still due of a derivation: a chain of symbols. */
    private record Due(String symbol, int depth, Due rest) {
    }

    private record Token(String kind, String text, int place) {
        int number() {
            return Integer.parseInt(text);
        }
    }

    private static final class Rule {
        String kind;
        int word;
        List<Token> sum = new ArrayList<>();
        List<Token> test = new ArrayList<>();
    }

    private static final class State {
        List<int[]> rows = new ArrayList<>();
        List<Boolean> pruned = new ArrayList<>();
        int lessons = 0;
        int carriedOut = 0;

        State copy() {
            State c = new State();
            for (int[] row : rows) {
                c.rows.add(row.clone());
            }
            c.pruned.addAll(pruned);
            c.lessons = lessons;
            c.carriedOut = carriedOut;
            return c;
        }

        int kept() {
            int kept = 0;
            for (boolean p : pruned) {
                kept += p ? 0 : 1;
            }
            return kept;
        }
    }

    private final List<Integer> tape = new ArrayList<>();
    private State state = new State();
    private List<Rule> rules = new ArrayList<>();
    private List<String> names = new ArrayList<>();
    private int band = 4;
    private int near = 6;
    private List<Integer> heard = new ArrayList<>();
    private int errorAt = -1;
    // The place of the next token while a sum or a test is reckoned.
    private int next;

    // ---- the language

    int feed(int a, int b, int c, int d, int e) {
        if (tape.size() + 20 > 2000) {
            throw new IllegalStateException();
        }
        for (int x : new int[] {a, b, c, d, e}) {
            tape.add((x >> 24) & 255);
            tape.add((x >> 16) & 255);
            tape.add((x >> 8) & 255);
            tape.add(x & 255);
        }
        return tape.size();
    }

    int trim(int n) {
        if (n < 0 || n > tape.size()) {
            throw new IllegalArgumentException();
        }
        while (tape.size() > n) {
            tape.remove(tape.size() - 1);
        }
        return n;
    }

    int teach() {
        List<Token> tokens = new ArrayList<>();
        errorAt = placeOfErrorOne(tokens);
        int error = 1;
        if (errorAt < 0) {
            error = tell(tokens);
        }
        tape.clear();
        return error;
    }

    int errorAt() {
        return errorAt;
    }

    private int placeOfErrorOne(List<Token> tokens) {
        Set<Due> all = new HashSet<>();
        unfold(new Due("LANGUAGE", 0, null), all);
        boolean complete = true;
        int place = 0;
        while (true) {
            while (place < tape.size() && (tape.get(place) == 32 || tape.get(place) == 10)) {
                place++;
            }
            if (place == tape.size()) {
                return complete ? -1 : place;
            }
            Token token = tokenAt(place);
            if (token == null || tokens.size() == 400) {
                return place;
            }
            Set<Due> followers = new HashSet<>();
            complete = false;
            for (Due due : all) {
                if (due.symbol.equals(token.kind)) {
                    complete |= unfold(due.rest, followers);
                }
            }
            if (followers.isEmpty() && !complete) {
                return place;
            }
            all = followers;
            tokens.add(token);
            place += token.text.length();
        }
    }

    /** Collects what begins with a token of all that a chain derives; whether it derives nothing, too. */
    private static boolean unfold(Due due, Set<Due> into) {
        if (due == null) {
            return true;
        }
        if (!Character.isUpperCase(due.symbol.charAt(0))) {
            into.add(due);
            return false;
        }
        boolean nothing = false;
        for (String[] right : TABLE.get(due.symbol)) {
            Due chain = due.rest;
            boolean tooDeep = false;
            for (int k = right.length - 1; k >= 0; k--) {
                boolean deeper = right[k].endsWith("#+");
                String symbol = deeper ? right[k].substring(0, right[k].length() - 1) : right[k];
                int depth = due.depth + (deeper ? 1 : 0);
                tooDeep |= depth > 8;
                chain = new Due(symbol, symbol.endsWith("#") ? depth : due.depth, chain);
            }
            if (!tooDeep) {
                nothing |= unfold(chain, into);
            } else if (right[0].equals("min") || right[0].equals("max")) {
                // Only its ( is too deep, so that it is still the beginning of something.
                into.add(new Due(right[0], due.depth, new Due("nothing at all", 0, null)));
            }
        }
        return nothing;
    }

    private Token tokenAt(int place) {
        StringBuilder rest = new StringBuilder();
        for (int k = place; k < tape.size(); k++) {
            rest.append((char) (int) tape.get(k));
        }
        String text = rest.toString();
        String word = text.replaceFirst("(?s)^([a-z][a-z0-9]*|[0-9]+|).*$", "$1");
        if (!word.isEmpty()) {
            boolean number = Character.isDigit(word.charAt(0));
            if (word.length() > (number ? 6 : 10)) {
                return null;
            }
            return new Token(number ? "number" : KEYWORDS.contains(word) ? word : "name", word, place);
        }
        for (String symbol : SYMBOLS) {
            if (text.startsWith(symbol)) {
                return new Token(symbol, symbol, place);
            }
        }
        return null;
    }

    private int tell(List<Token> tokens) {
        State told = new State();
        List<Rule> newRules = new ArrayList<>();
        List<String> newNames = new ArrayList<>();
        int newBand = 4;
        int newNear = 6;
        int first = 0;
        for (int k = 0; k < tokens.size(); k++) {
            Token token = tokens.get(k);
            String before = k == 0 ? "" : tokens.get(k - 1).kind;
            int error = 0;
            if (token.kind.equals("name")) {
                boolean known = newNames.contains(token.text);
                if (before.equals("word")) {
                    error = known ? 2 : newNames.size() == 8 ? 4 : 0;
                    newNames.add(token.text);
                    told.rows.add(new int[0]);
                    told.pruned.add(false);
                } else {
                    error = known ? 0 : 3;
                }
            } else if (k == first && Arrays.asList("prune", "restore", "shift").contains(token.kind)) {
                error = newRules.size() == 16 ? 4 : 0;
                Rule rule = new Rule();
                rule.kind = token.kind;
                newRules.add(rule);
            } else if (token.kind.equals("number")) {
                int n = token.number();
                int last = told.rows.size() - 1;
                switch (before) {
                    case "hold": case "glide": case "to":
                        error = n < 1 || n > 40 ? 5 : 0;
                        break;
                    case "for":
                        error = n < 1 || n > 9 || told.rows.get(last).length + n > 24 ? 5 : 0;
                        break;
                    case "band":
                        error = n > 20 ? 5 : 0;
                        newBand = n;
                        break;
                    case "near":
                        error = n > 99 ? 5 : 0;
                        newNear = n;
                        break;
                    default:
                        break;
                }
            }
            if (error != 0) {
                errorAt = token.place;
                return error;
            }
            if (before.equals("for")) {
                addPart(told, tokens, k);
            }
            if (token.kind.equals(";")) {
                addRule(newRules, newNames, tokens.subList(first, k));
                first = k + 1;
            }
        }
        state = told;
        rules = newRules;
        names = newNames;
        band = newBand;
        near = newNear;
        heard = new ArrayList<>();
        return 0;
    }

    private static void addPart(State told, List<Token> tokens, int end) {
        int n = tokens.get(end).number();
        int last = told.rows.size() - 1;
        int[] row = told.rows.get(last);
        int[] longer = Arrays.copyOf(row, row.length + n);
        for (int k = 0; k < n; k++) {
            String kind = tokens.get(end - 2).kind;
            if (kind.equals("rest")) {
                longer[row.length + k] = 0;
            } else if (tokens.get(end - 3).kind.equals("hold")) {
                longer[row.length + k] = tokens.get(end - 2).number();
            } else {
                int p = tokens.get(end - 4).number();
                int q = tokens.get(end - 2).number();
                int way = Math.abs(q - p) * k / n;
                longer[row.length + k] = q < p ? p - way : p + way;
            }
        }
        told.rows.set(last, longer);
    }

    private static void addRule(List<Rule> rules, List<String> names, List<Token> line) {
        if (line.isEmpty() || !Arrays.asList("prune", "restore", "shift").contains(line.get(0).kind)) {
            return;
        }
        Rule rule = rules.get(rules.size() - 1);
        rule.word = names.indexOf(line.get(1).text);
        boolean test = false;
        for (int k = 2; k < line.size(); k++) {
            Token token = line.get(k);
            if (token.kind.equals("name")) {
                token = new Token("name", String.valueOf(names.indexOf(token.text)), token.place);
            }
            if (token.kind.equals("when")) {
                test = true;
            } else if (test) {
                rule.test.add(token);
            } else if (!token.kind.equals("by")) {
                rule.sum.add(token);
            }
        }
    }

    // ---- reckoning

    private String kindAt(List<Token> tokens) {
        return next < tokens.size() ? tokens.get(next).kind : "";
    }

    private boolean test(List<Token> t, State s) {
        boolean answer = both(t, s);
        while (kindAt(t).equals("or")) {
            next++;
            boolean right = both(t, s);
            answer = answer || right;
        }
        return answer;
    }

    private boolean both(List<Token> t, State s) {
        boolean answer = single(t, s);
        while (kindAt(t).equals("and")) {
            next++;
            boolean right = single(t, s);
            answer = answer && right;
        }
        return answer;
    }

    private boolean single(List<Token> t, State s) {
        switch (kindAt(t)) {
            case "not":
                next++;
                return !single(t, s);
            case "[":
                next++;
                boolean answer = test(t, s);
                next++;
                return answer;
            case "heard":
                next += 2;
                return meant(s) == t.get(next - 1).number();
            case "pruned":
                next += 2;
                return s.pruned.get(t.get(next - 1).number());
            default:
                long left = sum(t, s);
                String compare = kindAt(t);
                next++;
                long right = sum(t, s);
                return compare.equals("<") && left < right || compare.equals(">") && left > right
                        || compare.equals("=") && left == right || compare.equals("<=") && left <= right
                        || compare.equals(">=") && left >= right;
        }
    }

    private long sum(List<Token> t, State s) {
        long answer = product(t, s);
        while (kindAt(t).equals("+") || kindAt(t).equals("-")) {
            boolean plus = kindAt(t).equals("+");
            next++;
            long right = product(t, s);
            answer = (int) (plus ? answer + right : answer - right);
        }
        return answer;
    }

    private long product(List<Token> t, State s) {
        long answer = value(t, s);
        while (kindAt(t).equals("*") || kindAt(t).equals("/")) {
            boolean times = kindAt(t).equals("*");
            next++;
            long right = value(t, s);
            answer = (int) (times ? answer * right : right == 0 ? 0 : answer / right);
        }
        return answer;
    }

    private long value(List<Token> t, State s) {
        String kind = kindAt(t);
        next++;
        switch (kind) {
            case "number":
                return t.get(next - 1).number();
            case "lesson":
                return s.lessons;
            case "kept":
                return s.kept();
            case "distance":
                next += 2;
                return heard.isEmpty() ? 999 : best(s.rows.get(t.get(next - 1).number()), heardRow(), false)[0];
            case "length":
                next += 2;
                return s.rows.get(t.get(next - 1).number()).length;
            case "-":
                return (int) -value(t, s);
            case "(":
                long inner = sum(t, s);
                next++;
                return inner;
            default:
                next++;
                long a = sum(t, s);
                next++;
                long b = sum(t, s);
                next++;
                return kind.equals("min") ? Math.min(a, b) : Math.max(a, b);
        }
    }

    // ---- distances

    private int[] heardRow() {
        int[] row = new int[heard.size()];
        for (int k = 0; k < row.length; k++) {
            row[k] = heard.get(k);
        }
        return row;
    }

    private static int contour(int[] row, int beat) {
        return beat + 1 < row.length ? Integer.signum(row[beat + 1] - row[beat]) : 0;
    }

    /** The least cost of a way, and the fewest steps of such ways. */
    private int[] best(int[] a, int[] b, boolean contours) {
        return best(a, b, contours, 0, 0, new int[a.length][b.length][]);
    }

    private int[] best(int[] a, int[] b, boolean contours, int i, int j, int[][][] known) {
        if (i >= a.length || j >= b.length || Math.abs(i - j) > band + Math.abs(a.length - b.length)) {
            return null;
        }
        if (known[i][j] == null) {
            int cost;
            if (contours) {
                cost = contour(a, i) == contour(b, j) ? 0 : 1;
            } else if (a[i] == 0 || b[j] == 0) {
                cost = a[i] == b[j] ? 0 : 10;
            } else {
                cost = Math.abs(a[i] - b[j]);
            }
            int[] least = i == a.length - 1 && j == b.length - 1 ? new int[] {0, 0} : null;
            for (int move = 1; move <= 3; move++) {
                int[] rest = best(a, b, contours, i + (move & 1), j + (move >> 1), known);
                if (rest != null && (least == null || rest[0] < least[0] || rest[0] == least[0] && rest[1] < least[1])) {
                    least = rest;
                }
            }
            known[i][j] = least == null ? new int[] {1000000, 0} : new int[] {least[0] + cost, least[1] + 1};
        }
        return known[i][j];
    }

    private int apart(int a, int b) {
        return best(state.rows.get(a), state.rows.get(b), false)[0];
    }

    private int meant(State s) {
        return meantWithout(s, -1);
    }

    private int meantWithout(State s, int without) {
        int meant = -1;
        int least = Integer.MAX_VALUE;
        for (int w = 0; w < s.rows.size() && !heard.isEmpty(); w++) {
            int d = best(heardRow(), s.rows.get(w), false)[0];
            if (w != without && !s.pruned.get(w) && d < least) {
                meant = w;
                least = d;
            }
        }
        return meant;
    }

    // ---- the rest of the face

    int words() {
        return names.size();
    }

    int keptWords() {
        return state.kept();
    }

    int rules() {
        return rules.size();
    }

    int lessons() {
        return state.lessons;
    }

    int rulesCarriedOut() {
        return state.carriedOut;
    }

    int heardBeats() {
        return heard.size();
    }

    private int[] row(int word) {
        if (word < 0 || word >= state.rows.size()) {
            throw new IndexOutOfBoundsException();
        }
        return state.rows.get(word);
    }

    private void someHeard() {
        if (heard.isEmpty()) {
            throw new IllegalStateException();
        }
    }

    int lengthOf(int word) {
        return row(word).length;
    }

    int pitchAt(int word, int beat) {
        if (beat < 0 || beat >= row(word).length) {
            throw new IndexOutOfBoundsException();
        }
        return row(word)[beat];
    }

    int contourAt(int word, int beat) {
        pitchAt(word, beat);
        return contour(row(word), beat);
    }

    boolean isPruned(int word) {
        row(word);
        return state.pruned.get(word);
    }

    int silentBeats(int word) {
        return (int) Arrays.stream(row(word)).filter(p -> p == 0).count();
    }

    int distanceBetween(int a, int b) {
        row(a);
        row(b);
        return apart(a, b);
    }

    int contourBetween(int a, int b) {
        return best(row(a), row(b), true)[0];
    }

    boolean areNear(int a, int b) {
        int longer = Math.max(row(a).length, row(b).length);
        return a != b && apart(a, b) < Math.floorDiv(near * longer, 4);
    }

    int nearestTo(int word) {
        row(word);
        int nearest = -1;
        for (int w = state.rows.size() - 1; w >= 0; w--) {
            if (w != word && (nearest < 0 || apart(w, word) <= apart(nearest, word))) {
                nearest = w;
            }
        }
        if (nearest < 0) {
            throw new IllegalStateException();
        }
        return nearest;
    }

    boolean isNeedless(int word) {
        boolean needless = false;
        for (int w = 0; w < state.rows.size(); w++) {
            needless |= w < word && !state.pruned.get(w) && areNear(w, word);
        }
        return !isPruned(word) && needless;
    }

    int heardPitch(int beat) {
        if (beat < 0 || beat >= heard.size()) {
            throw new IndexOutOfBoundsException();
        }
        return heard.get(beat);
    }

    int distanceTo(int word) {
        row(word);
        someHeard();
        return best(row(word), heardRow(), false)[0];
    }

    int contourTo(int word) {
        row(word);
        someHeard();
        return best(row(word), heardRow(), true)[0];
    }

    int stepsTo(int word) {
        row(word);
        someHeard();
        return best(row(word), heardRow(), false)[1];
    }

    int meantWord() {
        if (meant(state) < 0) {
            throw new IllegalStateException();
        }
        return meant(state);
    }

    int surety() {
        int first = meantWord();
        int second = meantWithout(state, first);
        return second < 0 ? -1 : distanceTo(second) - distanceTo(first);
    }

    int hear(int pitch) {
        if (pitch < 0 || pitch > 40) {
            throw new IllegalArgumentException();
        }
        if (heard.size() == 24) {
            throw new IllegalStateException();
        }
        heard.add(pitch);
        return heard.size();
    }

    private static int shifted(int pitch, long by) {
        return pitch == 0 ? 0 : (int) Math.min(40, Math.max(1, pitch + by));
    }

    int hearWord(int word, int by) {
        row(word);
        if (by < -39 || by > 39) {
            throw new IllegalArgumentException();
        }
        heard.clear();
        for (int p : row(word)) {
            heard.add(shifted(p, by));
        }
        return heard.size();
    }

    int forget() {
        int beats = heard.size();
        heard.clear();
        return beats;
    }

    boolean turnPruned(int word) {
        row(word);
        state.pruned.set(word, !state.pruned.get(word));
        return state.pruned.get(word);
    }

    int pruneNeedless() {
        int pruned = 0;
        for (int w = 0; w < state.rows.size(); w++) {
            if (isNeedless(w)) {
                state.pruned.set(w, true);
                pruned++;
            }
        }
        return pruned;
    }

    private void lesson(State s) {
        for (Rule rule : rules) {
            next = 0;
            if (!rule.test.isEmpty() && !test(rule.test, s)) {
                continue;
            }
            boolean changed = false;
            if (rule.kind.equals("shift")) {
                next = 0;
                long by = sum(rule.sum, s);
                int[] row = s.rows.get(rule.word);
                for (int k = 0; k < row.length; k++) {
                    changed |= shifted(row[k], by) != row[k];
                    row[k] = shifted(row[k], by);
                }
            } else {
                changed = s.pruned.set(rule.word, rule.kind.equals("prune")) != rule.kind.equals("prune");
            }
            s.carriedOut += changed ? 1 : 0;
        }
        s.lessons++;
    }

    int passLessons(int lessons) {
        if (lessons < 1 || lessons > 20) {
            throw new IllegalArgumentException();
        }
        int before = state.carriedOut;
        for (int k = 0; k < lessons; k++) {
            lesson(state);
        }
        return state.carriedOut - before;
    }

    int keptAfter(int lessons) {
        State real = state;
        state = state.copy();
        try {
            passLessons(lessons);
            return state.kept();
        } finally {
            state = real;
        }
    }

    int lessonsUntilMeant(int word) {
        row(word);
        State s = state.copy();
        for (int k = 0; k <= 20; k++) {
            if (meant(s) == word) {
                return k;
            }
            lesson(s);
        }
        return -1;
    }

    int bestShift(int word) {
        row(word);
        someHeard();
        int best = 99;
        int least = Integer.MAX_VALUE;
        for (int by = 39; by >= -39; by--) {
            int[] shifted = heardRow();
            for (int k = 0; k < shifted.length; k++) {
                shifted[k] = shifted(shifted[k], by);
            }
            int d = best(shifted, row(word), false)[0];
            if (d < least || d == least && Math.abs(by) < Math.abs(best)) {
                best = by;
                least = d;
            }
        }
        return best;
    }

    double meanLength() {
        return state.rows.stream().mapToInt(r -> r.length).average().orElse(0);
    }

    long digest() {
        List<Integer> all = new ArrayList<>(Arrays.asList(words(), keptWords(), rules(), lessons(),
                rulesCarriedOut(), heardBeats(), meant(state)));
        for (int w = 0; w < words(); w++) {
            all.addAll(Arrays.asList(lengthOf(w), isPruned(w) ? 1 : 0, isNeedless(w) ? 1 : 0));
            for (int p : row(w)) {
                all.add(p);
            }
            for (int v = 0; v < words(); v++) {
                all.add(distanceBetween(w, v));
            }
        }
        all.addAll(heard);
        long d = 1019;
        for (int x : all) {
            d = d * 31 + x;
        }
        return d;
    }
}

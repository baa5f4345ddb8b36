import java.util.Arrays;

/** A whistle language with glides. */
public final class GlideWhistles {
    private static final int MAX_TAPE = 2000;
    private static final int MAX_TOKENS = 400;
    private static final int MAX_NAME = 10;
    private static final int MAX_DIGITS = 6;
    private static final int MAX_DEPTH = 8;
    private static final int MAX_WORDS = 8;
    private static final int MAX_RULES = 16;
    private static final int MAX_BEATS = 24;
    private static final int MAX_PART = 9;
    private static final int MAX_BAND = 20;
    private static final int MAX_NEAR = 99;
    private static final int MAX_LESSONS = 20;
    private static final int MAX_SHIFT = 39;
    private static final int BYTES_FED = 20;
    private static final int SILENCE = 0;
    private static final int LOWEST = 1;
    private static final int HIGHEST = 40;
    private static final int USUAL_BAND = 4;
    private static final int USUAL_NEAR = 6;
    private static final int NOTHING_HEARD = 999;
    private static final int NO_WORD = -1;
    private static final int NO_PLACE = -1;
    private static final int NO_ERROR = 0;
    private static final int NOT_A_LANGUAGE = 1;
    private static final int TOLD_TWICE = 2;
    private static final int NOT_TOLD = 3;
    private static final int TOO_MANY = 4;
    private static final int OUT_OF_RANGE = 5;
    private static final Sign[] SIGNS = Sign.values();

    private final Tape tape = new Tape();
    private final Tokens tokens = new Tokens(tape);
    private final Warp warp = new Warp();
    private final Row heard = new Row();
    private final Row trial = new Row();
    private final Course course = new Course(heard, warp);
    private RuleBook book = new RuleBook();
    private Vocabulary vocabulary = new Vocabulary();
    // A second pair: teach() fills it and only then changes places, and lessons that would be are tried on it.
    private RuleBook spareBook = new RuleBook();
    private Vocabulary spareVocabulary = new Vocabulary();
    private int placeOfError = NO_PLACE;

    public GlideWhistles() {
    }

    // ---- the language

    public int feed(int a, int b, int c, int d, int e) throws IllegalStateException {
        if (tape.length > MAX_TAPE - BYTES_FED) {
            throw new IllegalStateException("the tape would be too long");
        }
        tape.append(a);
        tape.append(b);
        tape.append(c);
        tape.append(d);
        tape.append(e);
        return tape.length;
    }

    public int trim(int n) throws IllegalArgumentException {
        if (n < 0 || n > tape.length) {
            throw new IllegalArgumentException("the tape has no such length");
        }
        tape.length = n;
        return n;
    }

    public int teach() {
        tokens.readTape();
        Parser parser = new Parser(tokens, spareBook, spareVocabulary);
        parser.readLanguage();
        tape.length = 0;
        placeOfError = parser.errorPlace;
        if (parser.error == NO_ERROR) {
            beginAnew();
        }
        return parser.error;
    }

    public int errorAt() {
        return placeOfError;
    }

    public int words() {
        return vocabulary.count;
    }

    public int keptWords() {
        return vocabulary.countKept();
    }

    public int rules() {
        return book.count;
    }

    public int lessons() {
        return vocabulary.lessonsPassed;
    }

    public int rulesCarriedOut() {
        return vocabulary.carriedOut;
    }

    public int heardBeats() {
        return heard.length;
    }

    // ---- words

    public int lengthOf(int word) throws IndexOutOfBoundsException {
        requireWord(word);
        return rowOf(word).length;
    }

    public int pitchAt(int word, int beat) throws IndexOutOfBoundsException {
        requireWord(word);
        requireBeat(rowOf(word), beat);
        return rowOf(word).pitch(beat);
    }

    public int contourAt(int word, int beat) throws IndexOutOfBoundsException {
        requireWord(word);
        requireBeat(rowOf(word), beat);
        return rowOf(word).contour(beat);
    }

    public boolean isPruned(int word) throws IndexOutOfBoundsException {
        requireWord(word);
        return vocabulary.word(word).pruned;
    }

    public int silentBeats(int word) throws IndexOutOfBoundsException {
        requireWord(word);
        return rowOf(word).countSilent();
    }

    public int distanceBetween(int a, int b) throws IndexOutOfBoundsException {
        requireWord(a);
        requireWord(b);
        return wordsApart(a, b);
    }

    public int contourBetween(int a, int b) throws IndexOutOfBoundsException {
        requireWord(a);
        requireWord(b);
        return warp.contourDistance(rowOf(a), rowOf(b), book.band);
    }

    public boolean areNear(int a, int b) throws IndexOutOfBoundsException {
        requireWord(a);
        requireWord(b);
        return nearEachOther(a, b);
    }

    public int nearestTo(int word) throws IndexOutOfBoundsException, IllegalStateException {
        requireWord(word);
        if (vocabulary.count < 2) {
            throw new IllegalStateException("there is no other word");
        }
        int nearest = NO_WORD;
        int least = 0;
        for (int other = 0; other < vocabulary.count; other++) {
            if (other != word) {
                int distance = wordsApart(word, other);
                if (nearest == NO_WORD || distance < least) {
                    nearest = other;
                    least = distance;
                }
            }
        }
        return nearest;
    }

    public boolean isNeedless(int word) throws IndexOutOfBoundsException {
        requireWord(word);
        return needless(word);
    }

    // ---- what was heard

    public int heardPitch(int beat) throws IndexOutOfBoundsException {
        requireBeat(heard, beat);
        return heard.pitch(beat);
    }

    public int distanceTo(int word) throws IndexOutOfBoundsException, IllegalStateException {
        requireWord(word);
        requireSomeHeard();
        return vocabulary.word(word).distance;
    }

    public int contourTo(int word) throws IndexOutOfBoundsException, IllegalStateException {
        requireWord(word);
        requireSomeHeard();
        return warp.contourDistance(rowOf(word), heard, book.band);
    }

    public int stepsTo(int word) throws IndexOutOfBoundsException, IllegalStateException {
        requireWord(word);
        requireSomeHeard();
        return warp.fewestSteps(rowOf(word), heard, book.band);
    }

    public int meantWord() throws IllegalStateException {
        int meant = course.meantOf(vocabulary);
        requireMeant(meant);
        return meant;
    }

    public int surety() throws IllegalStateException {
        int meant = course.meantOf(vocabulary);
        requireMeant(meant);
        int second = vocabulary.closestKept(meant);
        if (second == NO_WORD) {
            return -1;
        }
        return vocabulary.word(second).distance - vocabulary.word(meant).distance;
    }

    // ---- by hand

    public int hear(int pitch) throws IllegalArgumentException, IllegalStateException {
        if (pitch < SILENCE || pitch > HIGHEST) {
            throw new IllegalArgumentException("there is no such pitch");
        }
        if (heard.length >= MAX_BEATS) {
            throw new IllegalStateException("no more beats can be heard");
        }
        heard.add(pitch);
        course.measureAll(book, vocabulary);
        return heard.length;
    }

    public int hearWord(int word, int by) throws IndexOutOfBoundsException, IllegalArgumentException {
        requireWord(word);
        if (by < -MAX_SHIFT || by > MAX_SHIFT) {
            throw new IllegalArgumentException("that is too great a shift");
        }
        heard.copyFrom(rowOf(word));
        heard.shift(by);
        course.measureAll(book, vocabulary);
        return heard.length;
    }

    public int forget() {
        int beats = heard.length;
        heard.length = 0;
        course.measureAll(book, vocabulary);
        return beats;
    }

    public boolean turnPruned(int word) throws IndexOutOfBoundsException {
        requireWord(word);
        Word turned = vocabulary.word(word);
        turned.pruned = !turned.pruned;
        return turned.pruned;
    }

    public int pruneNeedless() {
        int prunedNow = 0;
        for (int word = 0; word < vocabulary.count; word++) {
            if (needless(word)) {
                vocabulary.word(word).pruned = true;
                prunedNow++;
            }
        }
        return prunedNow;
    }

    // ---- lessons and what would be

    public int passLessons(int lessons) throws IllegalArgumentException {
        requireLessons(lessons);
        int carriedOut = 0;
        for (int k = 0; k < lessons; k++) {
            carriedOut += course.passOne(book, vocabulary);
        }
        return carriedOut;
    }

    public int keptAfter(int lessons) throws IllegalArgumentException {
        requireLessons(lessons);
        spareVocabulary.copyFrom(vocabulary);
        for (int k = 0; k < lessons; k++) {
            course.passOne(book, spareVocabulary);
        }
        return spareVocabulary.countKept();
    }

    public int lessonsUntilMeant(int word) throws IndexOutOfBoundsException {
        requireWord(word);
        spareVocabulary.copyFrom(vocabulary);
        for (int passed = 0; passed <= MAX_LESSONS; passed++) {
            if (course.meantOf(spareVocabulary) == word) {
                return passed;
            }
            course.passOne(book, spareVocabulary);
        }
        return -1;
    }

    public int bestShift(int word) throws IndexOutOfBoundsException, IllegalStateException {
        requireWord(word);
        requireSomeHeard();
        int best = 0;
        int least = distanceIfShifted(word, 0);
        // From 0 outwards, the greater one of two as near first: only a smaller distance takes over.
        for (int by = 1; by <= MAX_SHIFT; by++) {
            int above = distanceIfShifted(word, by);
            if (above < least) {
                best = by;
                least = above;
            }
            int below = distanceIfShifted(word, -by);
            if (below < least) {
                best = -by;
                least = below;
            }
        }
        return best;
    }

    public double meanLength() {
        if (vocabulary.count == 0) {
            return 0;
        }
        int beats = 0;
        for (int word = 0; word < vocabulary.count; word++) {
            beats += rowOf(word).length;
        }
        return (double) beats / vocabulary.count;
    }

    public long digest() {
        long d = 1019;
        d = d * 31 + vocabulary.count;
        d = d * 31 + vocabulary.countKept();
        d = d * 31 + book.count;
        d = d * 31 + vocabulary.lessonsPassed;
        d = d * 31 + vocabulary.carriedOut;
        d = d * 31 + heard.length;
        d = d * 31 + course.meantOf(vocabulary);
        for (int word = 0; word < vocabulary.count; word++) {
            d = digestOfWord(d, word);
        }
        return digestOfRow(d, heard);
    }

    // ---- what the face leans on

    private void requireWord(int word) {
        if (word < 0 || word >= vocabulary.count) {
            throw new IndexOutOfBoundsException("there is no such word");
        }
    }

    private static void requireBeat(Row row, int beat) {
        if (beat < 0 || beat >= row.length) {
            throw new IndexOutOfBoundsException("there is no such beat");
        }
    }

    private void requireSomeHeard() {
        if (heard.length == 0) {
            throw new IllegalStateException("nothing was heard");
        }
    }

    private static void requireMeant(int meant) {
        if (meant == NO_WORD) {
            throw new IllegalStateException("no word was meant");
        }
    }

    private static void requireLessons(int lessons) {
        if (lessons < 1 || lessons > MAX_LESSONS) {
            throw new IllegalArgumentException("lessons are 1 to 20");
        }
    }

    private void beginAnew() {
        RuleBook oldBook = book;
        book = spareBook;
        spareBook = oldBook;
        Vocabulary oldVocabulary = vocabulary;
        vocabulary = spareVocabulary;
        spareVocabulary = oldVocabulary;
        heard.length = 0;
    }

    private Row rowOf(int word) {
        return vocabulary.word(word).row;
    }

    private int wordsApart(int a, int b) {
        return warp.distance(rowOf(a), rowOf(b), book.band);
    }

    private boolean nearEachOther(int a, int b) {
        int longer = Math.max(rowOf(a).length, rowOf(b).length);
        return a != b && wordsApart(a, b) < book.nearness * longer / 4;
    }

    private boolean needless(int word) {
        if (vocabulary.word(word).pruned) {
            return false;
        }
        for (int other = 0; other < word; other++) {
            if (!vocabulary.word(other).pruned && nearEachOther(other, word)) {
                return true;
            }
        }
        return false;
    }

    private int distanceIfShifted(int word, int by) {
        trial.copyFrom(heard);
        trial.shift(by);
        return warp.distance(rowOf(word), trial, book.band);
    }

    private long digestOfWord(long begun, int word) {
        long d = begun;
        d = d * 31 + rowOf(word).length;
        d = d * 31 + (vocabulary.word(word).pruned ? 1 : 0);
        d = d * 31 + (needless(word) ? 1 : 0);
        d = digestOfRow(d, rowOf(word));
        for (int other = 0; other < vocabulary.count; other++) {
            d = d * 31 + wordsApart(word, other);
        }
        return d;
    }

    private static long digestOfRow(long begun, Row row) {
        long d = begun;
        for (int beat = 0; beat < row.length; beat++) {
            d = d * 31 + row.pitch(beat);
        }
        return d;
    }

    /** The kinds of tokens, and what a reckoning is made of; those without a text are never read from their text. */
    private enum Sign {
        WORD("word"), IS("is"), HOLD("hold"), FOR("for"), GLIDE("glide"), TO("to"), REST("rest"),
        BAND("band"), NEAR("near"), PRUNE("prune"), RESTORE("restore"), SHIFT("shift"), BY("by"), WHEN("when"),
        LESSON("lesson"), KEPT("kept"), DISTANCE("distance"), LENGTH("length"), OF("of"),
        HEARD("heard"), PRUNED("pruned"), NOT("not"), AND("and"), OR("or"), MIN("min"), MAX("max"),
        OPEN("("), CLOSE(")"), OPEN_TEST("["), CLOSE_TEST("]"), SEMICOLON(";"), COMMA(","),
        PLUS("+"), MINUS("-"), TIMES("*"), OVER("/"),
        LESS("<"), GREATER(">"), EQUAL("="), AT_MOST("<="), AT_LEAST(">="),
        NAME(""), NUMBER(""), NEGATIVE(""), END(""), WRONG("");

        private final String text;

        Sign(String text) {
            this.text = text;
        }
    }

    /** A row of beats. */
    private static final class Row {
        private final int[] pitches = new int[MAX_BEATS];
        private int length = 0;

        int pitch(int beat) {
            return beat >= 0 && beat < pitches.length ? pitches[beat] : SILENCE;
        }

        int contour(int beat) {
            if (beat < 0 || beat >= length - 1) {
                return 0;
            }
            int here = pitch(beat);
            int next = pitch(beat + 1);
            return next > here ? 1 : next < here ? -1 : 0;
        }

        int countSilent() {
            int silent = 0;
            for (int beat = 0; beat < length; beat++) {
                if (pitch(beat) == SILENCE) {
                    silent++;
                }
            }
            return silent;
        }

        void add(int pitch) {
            if (length >= 0 && length < pitches.length) {
                pitches[length] = pitch;
                length++;
            }
        }

        void addGlide(int from, int to, int beats) {
            for (int k = 0; k < beats && k < MAX_PART; k++) {
                add(from + quotient((to - from) * k, beats));
            }
        }

        void copyFrom(Row other) {
            length = other.length;
            for (int beat = 0; beat < pitches.length; beat++) {
                pitches[beat] = other.pitch(beat);
            }
        }

        void traceContour(Row other) {
            length = other.length;
            for (int beat = 0; beat < pitches.length; beat++) {
                pitches[beat] = other.contour(beat);
            }
        }

        /** Answers whether a pitch is another one then. */
        boolean shift(int by) {
            boolean changed = false;
            for (int beat = 0; beat < pitches.length && beat < length; beat++) {
                int pitch = pitches[beat];
                if (pitch != SILENCE) {
                    // A sum can be any int, and nothing may wrap around here.
                    long shifted = (long) pitch + by;
                    pitches[beat] = shifted < LOWEST ? LOWEST : shifted > HIGHEST ? HIGHEST : (int) shifted;
                    changed = changed || pitches[beat] != pitch;
                }
            }
            return changed;
        }
    }

    private static int quotient(int a, int b) {
        return b == 0 ? 0 : a / b;
    }

    /** Compares two rows, warped in time. */
    private static final class Warp {
        // A way is weighed as its cost times WEIGHT and its steps, so that of the cheapest ways the lightest has the
        // fewest steps. No way has WEIGHT steps (24 + 24 - 1 at most), and none is as heavy as UNREACHED.
        private static final int WEIGHT = 64;
        private static final int UNREACHED = 1 << 24;
        private static final int HALF_SILENT = 10;

        private final int[] lane = new int[MAX_BEATS + 1];
        private final Row firstContour = new Row();
        private final Row secondContour = new Row();

        int distance(Row a, Row b, int band) {
            return lightest(a, b, band, false) / WEIGHT;
        }

        int fewestSteps(Row a, Row b, int band) {
            return lightest(a, b, band, false) % WEIGHT;
        }

        int contourDistance(Row a, Row b, int band) {
            firstContour.traceContour(a);
            secondContour.traceContour(b);
            return lightest(firstContour, secondContour, band, true) / WEIGHT;
        }

        /** One lane is enough: behind j it still holds the row i - 1, up to j the row i; lane[j + 1] belongs to j. */
        private int lightest(Row a, Row b, int band, boolean contours) {
            int reach = band + Math.abs(a.length - b.length);
            Arrays.fill(lane, UNREACHED);
            for (int i = 0; i < a.length; i++) {
                int corner = i == 0 ? 0 : UNREACHED;
                for (int j = 0; j < b.length && j < lane.length - 1; j++) {
                    int above = lane[j + 1];
                    int before = Math.min(corner, Math.min(above, lane[j]));
                    boolean allowed = before < UNREACHED && Math.abs(i - j) <= reach;
                    lane[j + 1] = allowed ? before + weight(a.pitch(i), b.pitch(j), contours) : UNREACHED;
                    corner = above;
                }
            }
            return b.length >= 0 && b.length < lane.length ? lane[b.length] : UNREACHED;
        }

        private static int weight(int p, int q, boolean contours) {
            int cost = p < q ? q - p : p - q;
            if (contours) {
                cost = p == q ? 0 : 1;
            } else if (p != q && (p == SILENCE || q == SILENCE)) {
                cost = HALF_SILENT;
            }
            return cost * WEIGHT + 1;
        }
    }

    private static final class Word {
        private final Row row = new Row();
        private boolean pruned = false;
        // From what was heard; Course keeps it up to date.
        private int distance = NOTHING_HEARD;
    }

    /** All that lessons change, so that a copy is enough to try lessons on. */
    private static final class Vocabulary {
        private final Word[] all = new Word[MAX_WORDS];
        // Stands in for numbers that no word has.
        private final Word nobody = new Word();
        private int count = 0;
        private int lessonsPassed = 0;
        private int carriedOut = 0;

        Vocabulary() {
            for (int k = 0; k < all.length; k++) {
                all[k] = new Word();
            }
        }

        Word word(int number) {
            return number >= 0 && number < all.length ? all[number] : nobody;
        }

        void clear() {
            count = 0;
            lessonsPassed = 0;
            carriedOut = 0;
        }

        void addWord() {
            if (count < MAX_WORDS) {
                Word added = word(count);
                added.row.length = 0;
                added.pruned = false;
                added.distance = NOTHING_HEARD;
                count++;
            }
        }

        void copyFrom(Vocabulary other) {
            count = other.count;
            lessonsPassed = other.lessonsPassed;
            carriedOut = other.carriedOut;
            for (int k = 0; k < count; k++) {
                word(k).row.copyFrom(other.word(k).row);
                word(k).pruned = other.word(k).pruned;
                word(k).distance = other.word(k).distance;
            }
        }

        int countKept() {
            int kept = 0;
            for (int k = 0; k < count; k++) {
                if (!word(k).pruned) {
                    kept++;
                }
            }
            return kept;
        }

        /** The kept word closest to what was heard, without the one that is left out. */
        int closestKept(int leftOut) {
            int closest = NO_WORD;
            for (int k = 0; k < count; k++) {
                if (k != leftOut && !word(k).pruned
                        && (closest == NO_WORD || word(k).distance < word(closest).distance)) {
                    closest = k;
                }
            }
            return closest;
        }
    }

    /** A rule; its reckonings stand in the book: the sum from sumStart to testStart, the test up to testEnd. */
    private static final class Rule {
        private Sign kind = Sign.PRUNE;
        private int word = NO_WORD;
        private int sumStart = 0;
        private int testStart = 0;
        private int testEnd = 0;
    }

    /** All that was told and that lessons don't change. Reckonings are rows of signs, what is joined ahead of what joins. */
    private static final class RuleBook {
        private final Rule[] all = new Rule[MAX_RULES];
        private final Rule none = new Rule();
        private final Sign[] signs = new Sign[MAX_TOKENS];
        private final int[] values = new int[MAX_TOKENS];
        private int count = 0;
        private int size = 0;
        private int band = USUAL_BAND;
        private int nearness = USUAL_NEAR;

        RuleBook() {
            for (int k = 0; k < all.length; k++) {
                all[k] = new Rule();
            }
            for (int k = 0; k < signs.length; k++) {
                signs[k] = Sign.END;
            }
        }

        Rule rule(int number) {
            return number >= 0 && number < all.length ? all[number] : none;
        }

        Sign sign(int k) {
            return k >= 0 && k < signs.length ? signs[k] : Sign.END;
        }

        int value(int k) {
            return k >= 0 && k < values.length ? values[k] : 0;
        }

        void clear() {
            count = 0;
            size = 0;
            band = USUAL_BAND;
            nearness = USUAL_NEAR;
        }

        void addSign(Sign sign, int value) {
            if (size >= 0 && size < signs.length && size < values.length) {
                signs[size] = sign;
                values[size] = value;
                size++;
            }
        }

        /** The test ends where the book ends now. */
        void addRule(Sign kind, int word, int sumStart, int testStart) {
            if (count < MAX_RULES) {
                Rule added = rule(count);
                added.kind = kind;
                added.word = word;
                added.sumStart = sumStart;
                added.testStart = testStart;
                added.testEnd = size;
                count++;
            }
        }
    }

    /** What was heard, as lessons go by. */
    private static final class Course {
        private final Row heard;
        private final Warp warp;
        private final int[] stack = new int[MAX_TOKENS];
        private int top = 0;

        Course(Row heard, Warp warp) {
            this.heard = heard;
            this.warp = warp;
        }

        int meantOf(Vocabulary vocabulary) {
            return heard.length == 0 ? NO_WORD : vocabulary.closestKept(NO_WORD);
        }

        void measureAll(RuleBook book, Vocabulary vocabulary) {
            for (int k = 0; k < vocabulary.count; k++) {
                measure(book, vocabulary.word(k));
            }
        }

        private void measure(RuleBook book, Word word) {
            word.distance = heard.length == 0 ? NOTHING_HEARD : warp.distance(word.row, heard, book.band);
        }

        /** Answers how many rules were carried out. */
        int passOne(RuleBook book, Vocabulary vocabulary) {
            int carriedOut = 0;
            for (int k = 0; k < book.count; k++) {
                Rule rule = book.rule(k);
                if (holds(book, vocabulary, rule) && changes(book, vocabulary, rule)) {
                    carriedOut++;
                }
            }
            vocabulary.lessonsPassed++;
            vocabulary.carriedOut += carriedOut;
            return carriedOut;
        }

        private boolean holds(RuleBook book, Vocabulary vocabulary, Rule rule) {
            return rule.testStart == rule.testEnd
                    || reckon(book, vocabulary, rule.testStart, rule.testEnd) != 0;
        }

        private boolean changes(RuleBook book, Vocabulary vocabulary, Rule rule) {
            Word word = vocabulary.word(rule.word);
            if (rule.kind == Sign.SHIFT) {
                boolean shifted = word.row.shift(reckon(book, vocabulary, rule.sumStart, rule.testStart));
                if (shifted) {
                    measure(book, word);
                }
                return shifted;
            }
            boolean prunes = rule.kind == Sign.PRUNE;
            boolean turned = word.pruned != prunes;
            word.pruned = prunes;
            return turned;
        }

        private int reckon(RuleBook book, Vocabulary vocabulary, int from, int to) {
            top = 0;
            for (int k = from; k < to; k++) {
                Sign sign = book.sign(k);
                if (sign == Sign.NEGATIVE) {
                    push(-pop());
                } else if (sign == Sign.NOT) {
                    push(pop() == 0 ? 1 : 0);
                } else if (isJoin(sign)) {
                    int right = pop();
                    int left = pop();
                    push(join(sign, left, right));
                } else {
                    push(found(vocabulary, sign, book.value(k)));
                }
            }
            return pop();
        }

        private void push(int x) {
            if (top >= 0 && top < stack.length) {
                stack[top] = x;
                top++;
            }
        }

        private int pop() {
            if (top < 1 || top > stack.length) {
                return 0;
            }
            top--;
            return stack[top];
        }

        private int found(Vocabulary vocabulary, Sign sign, int value) {
            switch (sign) {
                case LESSON:
                    return vocabulary.lessonsPassed;
                case KEPT:
                    return vocabulary.countKept();
                case DISTANCE:
                    return vocabulary.word(value).distance;
                case LENGTH:
                    return vocabulary.word(value).row.length;
                case HEARD:
                    return meantOf(vocabulary) == value ? 1 : 0;
                case PRUNED:
                    return vocabulary.word(value).pruned ? 1 : 0;
                default:
                    return value;
            }
        }

        private static boolean isJoin(Sign sign) {
            switch (sign) {
                case AND: case OR: case MIN: case MAX:
                case PLUS: case MINUS: case TIMES: case OVER:
                case LESS: case GREATER: case EQUAL: case AT_MOST: case AT_LEAST:
                    return true;
                default:
                    return false;
            }
        }

        private static int join(Sign sign, int left, int right) {
            switch (sign) {
                case AND:
                    return left & right;
                case OR:
                    return left | right;
                case MIN:
                    return Math.min(left, right);
                case MAX:
                    return Math.max(left, right);
                case PLUS:
                    return left + right;
                case MINUS:
                    return left - right;
                case TIMES:
                    return left * right;
                case OVER:
                    return quotient(left, right);
                default:
                    return compares(sign, left, right) ? 1 : 0;
            }
        }

        private static boolean compares(Sign sign, int left, int right) {
            switch (sign) {
                case LESS:
                    return left < right;
                case GREATER:
                    return left > right;
                case AT_MOST:
                    return left <= right;
                case AT_LEAST:
                    return left >= right;
                default:
                    return left == right;
            }
        }
    }

    /** The bytes that were fed. */
    private static final class Tape {
        private static final int LINE_END = 10;
        private final char[] bytes = new char[MAX_TAPE];
        private int length = 0;

        void append(int number) {
            for (int shift = 24; shift >= 0; shift -= 8) {
                if (length >= 0 && length < bytes.length) {
                    bytes[length] = (char) (number >>> shift & 255);
                    length++;
                }
            }
        }

        /** -1 behind the end. */
        int byteAt(int place) {
            return place >= 0 && place < length && place < bytes.length ? bytes[place] : -1;
        }

        boolean isLetter(int place) {
            int b = byteAt(place);
            return b >= 'a' && b <= 'z';
        }

        boolean isDigit(int place) {
            int b = byteAt(place);
            return b >= '0' && b <= '9';
        }

        int behindBlanks(int place) {
            int end = place;
            while (end < length && (byteAt(end) == ' ' || byteAt(end) == LINE_END)) {
                end++;
            }
            return end;
        }

        boolean spells(int place, String text) {
            for (int k = 0; k < text.length(); k++) {
                if (byteAt(place + k) != text.charAt(k)) {
                    return false;
                }
            }
            return true;
        }

        boolean alike(int place, int other, int size) {
            for (int k = 0; k < size; k++) {
                if (byteAt(place + k) != byteAt(other + k)) {
                    return false;
                }
            }
            return true;
        }
    }

    /** The tokens of the tape, up to its end or to a wrong one, which is always the last of them. */
    private static final class Tokens {
        private final Tape tape;
        private final Sign[] signs = new Sign[MAX_TOKENS + 1];
        private final int[] places = new int[MAX_TOKENS + 1];
        private final int[] sizes = new int[MAX_TOKENS + 1];
        // Of a number what it is, of a name the first token with this name.
        private final int[] values = new int[MAX_TOKENS + 1];
        private int count = 0;

        Tokens(Tape tape) {
            this.tape = tape;
            for (int k = 0; k < signs.length; k++) {
                signs[k] = Sign.END;
            }
        }

        Sign sign(int k) {
            return k >= 0 && k < signs.length ? signs[k] : Sign.WRONG;
        }

        int place(int k) {
            return k >= 0 && k < places.length ? places[k] : 0;
        }

        int size(int k) {
            return k >= 0 && k < sizes.length ? sizes[k] : 0;
        }

        int value(int k) {
            return k >= 0 && k < values.length ? values[k] : 0;
        }

        void readTape() {
            count = 0;
            int place = tape.behindBlanks(0);
            for (int k = 0; k <= MAX_TOKENS; k++) {
                readToken(place);
                if (sign(k) == Sign.END || sign(k) == Sign.WRONG) {
                    return;
                }
                place = tape.behindBlanks(place + size(k));
            }
        }

        private void readToken(int place) {
            if (place >= tape.length) {
                add(Sign.END, place, 0, 0);
            } else if (count >= MAX_TOKENS) {
                add(Sign.WRONG, place, 0, 0);
            } else if (tape.isLetter(place)) {
                readWord(place);
            } else if (tape.isDigit(place)) {
                readNumber(place);
            } else {
                readSymbol(place);
            }
        }

        private void add(Sign sign, int place, int size, int value) {
            if (count >= 0 && count < signs.length && count < places.length
                    && count < sizes.length && count < values.length) {
                signs[count] = sign;
                places[count] = place;
                sizes[count] = size;
                values[count] = value;
                count++;
            }
        }

        private void readWord(int place) {
            int end = place;
            while (end < tape.length && (tape.isLetter(end) || tape.isDigit(end))) {
                end++;
            }
            int size = end - place;
            if (size > MAX_NAME) {
                add(Sign.WRONG, place, size, 0);
                return;
            }
            Sign spelled = longestSpelled(place);
            if (spelled.text.length() == size) {
                add(spelled, place, size, 0);
            } else {
                add(Sign.NAME, place, size, firstAlike(place, size));
            }
        }

        private void readNumber(int place) {
            int end = place;
            int value = 0;
            while (end < tape.length && tape.isDigit(end)) {
                value = value * 10 + tape.byteAt(end) - '0';
                end++;
            }
            int size = end - place;
            add(size > MAX_DIGITS ? Sign.WRONG : Sign.NUMBER, place, size, value);
        }

        private void readSymbol(int place) {
            Sign spelled = longestSpelled(place);
            add(spelled, place, spelled.text.length(), 0);
        }

        /** WRONG, if none is. */
        private Sign longestSpelled(int place) {
            Sign longest = Sign.WRONG;
            for (int k = 0; k < SIGNS.length; k++) {
                String text = SIGNS[k].text;
                if (text.length() > longest.text.length() && tape.spells(place, text)) {
                    longest = SIGNS[k];
                }
            }
            return longest;
        }

        private int firstAlike(int place, int size) {
            for (int k = 0; k < count; k++) {
                if (sign(k) == Sign.NAME && size(k) == size && tape.alike(place(k), place, size)) {
                    return k;
                }
            }
            return count;
        }
    }

    /**
     * Reads tokens as a language. Behind an error of 2 to 5 it goes on, as there can still be an error 1; what it told
     * book and vocabulary is void if there is an error.
     */
    private static final class Parser {
        private final Tokens tokens;
        private final RuleBook book;
        private final Vocabulary vocabulary;
        private final int[] names = new int[MAX_WORDS];
        private int at = -1;
        private Sign sign = Sign.WRONG;
        private int place = 0;
        private int value = 0;
        private int error = NO_ERROR;
        private int errorPlace = NO_PLACE;

        Parser(Tokens tokens, RuleBook book, Vocabulary vocabulary) {
            this.tokens = tokens;
            this.book = book;
            this.vocabulary = vocabulary;
        }

        void readLanguage() {
            book.clear();
            vocabulary.clear();
            step();
            for (int k = 0; k < MAX_TOKENS && error != NOT_A_LANGUAGE && sign != Sign.END; k++) {
                if (sign == Sign.WORD) {
                    readWord();
                } else if (sign == Sign.BAND) {
                    step();
                    book.band = readNumber(0, MAX_BAND);
                } else if (sign == Sign.NEAR) {
                    step();
                    book.nearness = readNumber(0, MAX_NEAR);
                } else {
                    readRule();
                }
                expect(Sign.SEMICOLON);
            }
        }

        private void step() {
            if (error != NOT_A_LANGUAGE) {
                at++;
                sign = tokens.sign(at);
                place = tokens.place(at);
                value = tokens.value(at);
            }
        }

        private void expect(Sign due) {
            if (sign == due) {
                step();
            } else {
                refuse();
            }
        }

        /** Error 1 at this token. From then on every token is a wrong one, so that all that reads comes to an end. */
        private void refuse() {
            if (error != NOT_A_LANGUAGE) {
                error = NOT_A_LANGUAGE;
                errorPlace = place;
                sign = Sign.WRONG;
            }
        }

        /** Another error at this token, if it is the first one. */
        private void blame(int number) {
            if (error == NO_ERROR) {
                error = number;
                errorPlace = place;
            }
        }

        private void readWord() {
            step();
            readNewName();
            expect(Sign.IS);
            readPart();
            for (int k = 0; k < MAX_TOKENS && sign == Sign.COMMA; k++) {
                step();
                readPart();
            }
        }

        private void readNewName() {
            if (sign != Sign.NAME) {
                refuse();
                return;
            }
            if (wordCalled(value) != NO_WORD) {
                blame(TOLD_TWICE);
            }
            if (vocabulary.count >= MAX_WORDS) {
                blame(TOO_MANY);
            } else if (vocabulary.count < names.length) {
                names[vocabulary.count] = value;
                vocabulary.addWord();
            }
            step();
        }

        private int readKnownName() {
            if (sign != Sign.NAME) {
                refuse();
                return NO_WORD;
            }
            int word = wordCalled(value);
            if (word == NO_WORD) {
                blame(NOT_TOLD);
            }
            step();
            return word;
        }

        private int wordCalled(int name) {
            for (int k = 0; k < vocabulary.count && k < names.length; k++) {
                if (names[k] == name) {
                    return k;
                }
            }
            return NO_WORD;
        }

        private void readPart() {
            Row row = vocabulary.word(vocabulary.count - 1).row;
            int from = SILENCE;
            int to = SILENCE;
            if (sign == Sign.HOLD) {
                step();
                from = readNumber(LOWEST, HIGHEST);
                to = from;
            } else if (sign == Sign.GLIDE) {
                step();
                from = readNumber(LOWEST, HIGHEST);
                expect(Sign.TO);
                to = readNumber(LOWEST, HIGHEST);
            } else {
                expect(Sign.REST);
            }
            expect(Sign.FOR);
            row.addGlide(from, to, readNumber(1, Math.min(MAX_PART, MAX_BEATS - row.length)));
        }

        /** 0, if it is not even a number. */
        private int readNumber(int least, int greatest) {
            if (sign != Sign.NUMBER) {
                refuse();
                return 0;
            }
            int number = value;
            if (number < least || number > greatest) {
                blame(OUT_OF_RANGE);
            }
            step();
            return number;
        }

        private void readRule() {
            if (sign != Sign.PRUNE && sign != Sign.RESTORE && sign != Sign.SHIFT) {
                refuse();
                return;
            }
            if (book.count >= MAX_RULES) {
                blame(TOO_MANY);
            }
            Sign kind = sign;
            step();
            int word = readKnownName();
            int sumStart = book.size;
            if (kind == Sign.SHIFT) {
                expect(Sign.BY);
                readSum(0);
            }
            int testStart = book.size;
            if (sign == Sign.WHEN) {
                step();
                readTest(0);
            }
            book.addRule(kind, word, sumStart, testStart);
        }

        /** This token would make the depth 1 greater. */
        private void requireDepth(int depth) {
            if (depth >= MAX_DEPTH) {
                refuse();
            }
        }

        private void readTest(int depth) {
            readBoth(depth);
            for (int k = 0; k < MAX_TOKENS && sign == Sign.OR; k++) {
                step();
                readBoth(depth);
                book.addSign(Sign.OR, 0);
            }
        }

        private void readBoth(int depth) {
            readSingle(depth);
            for (int k = 0; k < MAX_TOKENS && sign == Sign.AND; k++) {
                step();
                readSingle(depth);
                book.addSign(Sign.AND, 0);
            }
        }

        private void readSingle(int depth) {
            if (sign == Sign.NOT) {
                requireDepth(depth);
                step();
                readSingle(depth + 1);
                book.addSign(Sign.NOT, 0);
            } else if (sign == Sign.OPEN_TEST) {
                requireDepth(depth);
                step();
                readTest(depth + 1);
                expect(Sign.CLOSE_TEST);
            } else if (sign == Sign.HEARD || sign == Sign.PRUNED) {
                Sign asked = sign;
                step();
                book.addSign(asked, readKnownName());
            } else {
                readSum(depth);
                Sign compared = sign;
                if (isComparison()) {
                    step();
                } else {
                    refuse();
                }
                readSum(depth);
                book.addSign(compared, 0);
            }
        }

        private boolean isComparison() {
            return sign == Sign.LESS || sign == Sign.GREATER || sign == Sign.EQUAL
                    || sign == Sign.AT_MOST || sign == Sign.AT_LEAST;
        }

        private void readSum(int depth) {
            readProduct(depth);
            for (int k = 0; k < MAX_TOKENS && (sign == Sign.PLUS || sign == Sign.MINUS); k++) {
                Sign joined = sign;
                step();
                readProduct(depth);
                book.addSign(joined, 0);
            }
        }

        private void readProduct(int depth) {
            readValue(depth);
            for (int k = 0; k < MAX_TOKENS && (sign == Sign.TIMES || sign == Sign.OVER); k++) {
                Sign joined = sign;
                step();
                readValue(depth);
                book.addSign(joined, 0);
            }
        }

        private void readValue(int depth) {
            if (sign == Sign.MINUS) {
                requireDepth(depth);
                step();
                readValue(depth + 1);
                book.addSign(Sign.NEGATIVE, 0);
            } else if (sign == Sign.OPEN) {
                requireDepth(depth);
                step();
                readSum(depth + 1);
                expect(Sign.CLOSE);
            } else if (sign == Sign.MIN || sign == Sign.MAX) {
                readChoice(depth);
            } else if (sign == Sign.DISTANCE || sign == Sign.LENGTH) {
                Sign asked = sign;
                step();
                expect(Sign.OF);
                book.addSign(asked, readKnownName());
            } else if (sign == Sign.NUMBER || sign == Sign.LESSON || sign == Sign.KEPT) {
                book.addSign(sign, value);
                step();
            } else {
                refuse();
            }
        }

        private void readChoice(int depth) {
            Sign joined = sign;
            step();
            if (sign != Sign.OPEN) {
                refuse();
            }
            requireDepth(depth);
            step();
            readSum(depth + 1);
            expect(Sign.COMMA);
            readSum(depth + 1);
            expect(Sign.CLOSE);
            book.addSign(joined, 0);
        }
    }
}

/** Composes languages: most of them right, many at a limit, some wrong. */
final class Composer {
    private static final String[] NAMES = {"a", "b", "cc", "d2", "word1", "holder", "kept9", "abcdefghij", "h", "i"};
    private final Dice dice;
    private final StringBuilder text = new StringBuilder();
    private int told = 0;
    private boolean sloppy;

    Composer(Dice dice) {
        this.dice = dice;
    }

    String compose() {
        text.setLength(0);
        told = 0;
        sloppy = dice.once(7);
        int wordLines = dice.once(6) ? dice.between(0, 1) : dice.between(2, dice.once(8) ? 9 : 8);
        int ruleLines = wordLines == 0 ? dice.below(15) / 14 : dice.once(5) ? dice.between(14, 17) : dice.between(0, 8);
        while (wordLines > 0 || ruleLines > 0) {
            if (wordLines > 0 && (ruleLines == 0 || told == 0 && !dice.once(30) || dice.once(3))) {
                word();
                wordLines--;
            } else {
                rule();
                ruleLines--;
            }
            if (dice.once(5)) {
                boolean band = dice.once(2);
                put(band ? "band" : "near");
                number(dice.once(20) ? dice.between(19, 101) : dice.between(0, band ? 20 : 40));
                put(";");
            }
        }
        if (dice.once(8)) {
            spoil();
        }
        if (text.length() > 2000) {
            text.setLength(2000);
        }
        return text.toString();
    }

    private void put(String token) {
        int end = text.length();
        boolean joins = end > 0 && Character.isLetterOrDigit(text.charAt(end - 1)) && Character.isLetterOrDigit(token.charAt(0))
                || end > 0 && "<>".indexOf(text.charAt(end - 1)) >= 0;
        if (joins || dice.once(5)) {
            text.append(dice.oneOf(" ", " ", "\n", "  "));
        }
        text.append(token);
    }

    private void number(int n) {
        put((dice.once(12) ? "0" : "") + n);
    }

    private void puts(String tokens) {
        for (String token : tokens.split(" ")) {
            put(token);
        }
    }

    private void word() {
        put("word");
        put(sloppy && dice.once(8) ? NAMES[dice.below(NAMES.length)] : NAMES[told % NAMES.length]);
        told++;
        put("is");
        int room = 24;
        int parts = dice.between(1, dice.once(3) ? 6 : 3);
        for (int k = 0; k < parts && room > 0; k++) {
            if (k > 0) {
                put(",");
            }
            String kind = dice.oneOf("hold", "glide", "glide", "rest");
            put(kind);
            if (!kind.equals("rest")) {
                number(pitch());
            }
            if (kind.equals("glide")) {
                put("to");
                number(pitch());
            }
            put("for");
            int beats = sloppy && dice.once(10) ? dice.between(0, 11) : dice.between(1, Math.min(9, room));
            number(beats);
            room -= beats;
        }
        put(";");
    }

    private int pitch() {
        return sloppy && dice.once(10) ? dice.between(0, 42) : dice.once(5) ? dice.oneOf("1", "40").length() * 39 - 38 : dice.between(1, 40);
    }

    private String name() {
        return sloppy && dice.once(10) ? dice.oneOf(NAMES) : NAMES[dice.below(Math.max(1, Math.min(told, 8)))];
    }

    private void rule() {
        String kind = dice.oneOf("prune", "restore", "shift");
        put(kind);
        put(name());
        if (kind.equals("shift")) {
            put("by");
            sum(dice.between(0, 3));
        }
        if (!dice.once(4)) {
            put("when");
            test(dice.between(0, dice.once(6) ? 8 : 3));
        }
        put(";");
    }

    private void test(int size) {
        both(size);
        while (dice.once(4)) {
            put("or");
            both(size - 1);
        }
    }

    private void both(int size) {
        single(size);
        while (dice.once(4)) {
            put("and");
            single(size - 1);
        }
    }

    private void single(int size) {
        int kind = dice.below(size > 0 ? 6 : 4);
        if (kind == 0) {
            put(dice.oneOf("heard", "pruned"));
            put(name());
        } else if (kind == 4) {
            put("not");
            single(size - 1);
        } else if (kind == 5) {
            put("[");
            test(size - 1);
            put("]");
        } else {
            sum(size / 2);
            put(dice.oneOf("<", ">", "=", "<=", ">="));
            sum(size / 2);
        }
    }

    private void sum(int size) {
        product(size);
        while (dice.once(4)) {
            put(dice.oneOf("+", "-"));
            product(size - 1);
        }
    }

    private void product(int size) {
        value(size);
        while (dice.once(5)) {
            put(dice.oneOf("*", "/"));
            value(size - 1);
        }
    }

    private void value(int size) {
        int kind = dice.below(size > 0 ? 9 : 5);
        if (kind < 2) {
            number(dice.once(6) ? dice.between(0, 999999) / 10 : dice.between(0, 30));
        } else if (kind == 2) {
            put(dice.oneOf("lesson", "kept"));
        } else if (kind < 5) {
            put(dice.oneOf("distance", "length"));
            put("of");
            put(name());
        } else if (kind == 5) {
            put("-");
            value(size - 1);
        } else if (kind == 6) {
            put("(");
            sum(size - 1);
            put(")");
        } else if (kind == 7) {
            puts(dice.oneOf("min (", "max ("));
            sum(size - 1);
            put(",");
            sum(size - 1);
            put(")");
        } else {
            puts("999999 * 999999");
        }
    }

    /** Changes a byte, takes one away or puts one in, or cuts the end off. */
    private void spoil() {
        if (text.length() == 0) {
            text.append(dice.oneOf("x", ";", "7"));
            return;
        }
        int place = dice.below(text.length());
        String one = dice.oneOf("(", ")", "[", "]", "-", ";", ",", "<", "=", "9", "a", "z", " ", "\n", "\t", "A", "\u00ff", "\0",
                " not ", " - ", "+", " 1 ", " when ", "{", "`", "/", ":", "@");
        int kind = dice.below(4);
        if (kind == 0) {
            text.replace(place, place + 1, one);
        } else if (kind == 1) {
            text.deleteCharAt(place);
        } else if (kind == 2) {
            text.insert(place, one);
        } else {
            text.setLength(place);
        }
    }
}

import java.util.Random;

/** Texts of rules, most of them without a fault and some with one or two. */
final class RuleTexts {
    private static final String[] PIECES = {
        "pay", "when", "and", "sum", "slips", "back", "month", "0", "1", "1234567", "999999", ";", "+", "-", "*", "/",
        "(", ")", "<", "=", ">", " ", "\n", "/0", "/ 00", ".", "x", "P", "\u00e4", "\t", "((((((((",
    };
    private static final String[] UNITS = {"sum", "slips", "back", "month"};
    private static final String[] SIGNS = {"<", "=", ">"};

    private final Random random;
    private final StringBuilder text = new StringBuilder();

    RuleTexts(Random random) {
        this.random = random;
    }

    String text() {
        int lines = random.nextInt(8) == 0 ? 7 + random.nextInt(3) : random.nextInt(5);
        for (int i = 0; i < lines; i++) {
            line(lines > 6 ? 0 : 2 + random.nextInt(2));
        }
        blanks();
        if (random.nextInt(10) < 4) {
            for (int n = random.nextInt(2); n >= 0; n--) {
                spoil();
            }
        }
        if (text.length() > 400) {
            text.setLength(400);
        }
        return text.toString();
    }

    private void spoil() {
        int at = random.nextInt(text.length() + 1);
        if (random.nextInt(6) == 0) {
            text.setLength(at);
            return;
        }
        if (random.nextBoolean()) {
            text.delete(at, Math.min(text.length(), at + 1 + random.nextInt(3)));
        }
        if (random.nextInt(3) > 0) {
            text.insert(at, PIECES[random.nextInt(PIECES.length)]);
        }
    }

    private void blanks() {
        int n = random.nextInt(4);
        for (int i = 0; i < n - 2; i++) {
            text.append(random.nextInt(3) == 0 ? '\n' : ' ');
        }
    }

    /** Keeps words apart that would else be one. */
    private void put(String token) {
        blanks();
        boolean word = Character.isLetterOrDigit(token.charAt(0));
        if (word && text.length() > 0 && Character.isLetterOrDigit(text.charAt(text.length() - 1))) {
            text.append(' ');
        }
        text.append(token);
    }

    private void line(int depth) {
        put("pay");
        sum(depth);
        put("when");
        int conditions = 1 + random.nextInt(2);
        for (int i = 0; i < conditions; i++) {
            if (i > 0) {
                put("and");
            }
            sum(Math.min(1, depth));
            put(SIGNS[random.nextInt(3)]);
            sum(Math.min(1, depth));
        }
        put(";");
    }

    private void sum(int depth) {
        term(depth);
        while (random.nextInt(3) == 0) {
            put(random.nextBoolean() ? "+" : "-");
            term(depth);
        }
    }

    private void term(int depth) {
        unit(depth);
        while (random.nextInt(4) == 0) {
            if (random.nextBoolean()) {
                put("*");
                unit(depth);
            } else {
                put("/");
                put(String.valueOf(1 + random.nextInt(12)));
            }
        }
    }

    private void unit(int depth) {
        int kind = random.nextInt(7);
        if (kind == 0 && depth > 0) {
            int open = random.nextInt(12) == 0 ? 1 + random.nextInt(9) : 1;
            for (int i = 0; i < open; i++) {
                put("(");
            }
            sum(depth - 1);
            for (int i = 0; i < open; i++) {
                put(")");
            }
        } else if (kind < 4) {
            put(UNITS[random.nextInt(4)]);
        } else {
            put(String.valueOf(random.nextInt(5) == 0 ? random.nextInt(1000000) : random.nextInt(20)));
        }
    }
}

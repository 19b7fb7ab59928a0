import java.util.Random;

/** Makes texts of LAWS, most of them as the grammar has them, some with a slip. */
final class TextMaker {
    private static final String[] VALUES =
        {"price", "seller", "buyer", "how", "artist", "held", "from", "again", "joint", "edition"};
    private static final String[] SLIPS = {"frog", "12345678", "123456789", "0", "(", ")", ";", "not", "or", "and",
        "<", "=", "+", "!", "\u00e9", "A", "due", "step", "agrees", " ", "\n", "\t", "price", "not not not not"};

    private final Random random;
    private final int oddity;
    private final StringBuilder text = new StringBuilder();

    TextMaker(Random random, int oddity) {
        this.random = random;
        this.oddity = oddity;
    }

    String law(int lands) {
        int clauses = random.nextInt(12) == 0 ? 14 + random.nextInt(5) : random.nextInt(8);
        int end = random.nextInt(8) == 0 ? 0 : random.nextInt(3000);
        boolean parts = false;
        for (int i = 0; i < clauses; i++) {
            int draw = random.nextInt(10);
            if (draw < 2) {
                say("due");
                expr(0);
            } else if (draw < 5) {
                say("step");
                end += random.nextInt(oddity) == 0 ? -1 : 1 + random.nextInt(5000);
                say(Math.max(0, end));
                say(random.nextInt(oddity) == 0 ? 10001 : random.nextInt(10001));
                parts = true;
            } else {
                setting(draw, lands);
                parts |= draw == 5;
            }
            say(";");
        }
        if (!parts && clauses < 14) {
            say("rest");
            say(random.nextInt(10001));
            say(";");
        }
        if (random.nextInt(oddity) == 0) {
            text.insert(random.nextInt(text.length() + 1), SLIPS[random.nextInt(SLIPS.length)]);
        }
        if (random.nextInt(oddity) == 0) {
            text.setLength(random.nextInt(text.length() + 1));
        }
        text.setLength(Math.min(500, text.length()));
        return text.toString();
    }

    /** A short text by which most SALES count and have a PART. */
    String plainLaw(int lands) {
        say("rest");
        say(2000 + random.nextInt(8001));
        say(";");
        for (int i = 0; i < lands; i++) {
            if (random.nextInt(3) > 0) {
                say("agrees");
                say(i);
                say(";");
            }
        }
        String[] more = {"due 1;", "due artist or held<400;", "years 0;", "years 1;", "years 2;", "claim 3;", "claim 0;",
            "step 500 9000; step 3000 4000;", "due from = 0;", "due again < 2 or how;", "least 40;", "most 777;"};
        for (int i = random.nextInt(6); i > 0; i--) {
            text.append(more[random.nextInt(more.length)]);
        }
        return text.toString();
    }

    private void setting(int draw, int lands) {
        String[] names = {"rest", "least", "most", "years", "agrees", "claim"};
        int which = draw == 5 ? 0 : random.nextInt(5) + 1;
        int[] most = {10001, random.nextBoolean() ? 3000 : 99999999, 5000, random.nextBoolean() ? 4 : 201,
            random.nextInt(oddity) == 0 ? lands + 2 : lands, 30};
        say(names[which]);
        say(random.nextInt(Math.max(1, most[which])));
    }

    private void say(int number) {
        say(Integer.toString(number));
    }

    private void say(String token) {
        boolean apart = text.length() > 0 && Character.isLetterOrDigit(text.charAt(text.length() - 1))
                && Character.isLetterOrDigit(token.charAt(0));
        if (apart || random.nextInt(10) == 0) {
            text.append(random.nextInt(8) == 0 ? '\n' : ' ');
        }
        text.append(token);
    }

    private void expr(int deep) {
        and(deep);
        while (random.nextInt(5) == 0) {
            say("or");
            and(deep);
        }
    }

    private void and(int deep) {
        not(deep);
        while (random.nextInt(6) == 0) {
            say("and");
            not(deep);
        }
    }

    private void not(int deep) {
        for (int nots = random.nextInt(oddity) == 0 ? 7 : 6; nots > 0 && random.nextInt(5) == 0; nots--) {
            say("not");
        }
        if (random.nextInt(oddity * 3) == 0) {
            for (int i = 0; i < 5 + random.nextInt(3); i++) {
                say("not");
            }
        }
        sum(deep);
        if (random.nextInt(3) == 0) {
            say(random.nextBoolean() ? "<" : "=");
            sum(deep);
        }
    }

    private void sum(int deep) {
        product(deep);
        while (random.nextInt(4) == 0) {
            say(random.nextBoolean() ? "+" : "-");
            product(deep);
        }
    }

    private void product(int deep) {
        part(deep);
        while (random.nextInt(5) == 0) {
            say(random.nextBoolean() ? "*" : "/");
            part(deep);
        }
    }

    private void part(int deep) {
        int draw = random.nextInt(10);
        if (draw < 4) {
            say(random.nextInt(6) == 0 ? random.nextInt(100000000) : random.nextInt(4));
        } else if (draw < 8 || deep > 6) {
            say(VALUES[random.nextInt(VALUES.length)]);
        } else {
            say("(");
            if (random.nextInt(oddity) == 0) {
                nest(5 - deep);
            } else {
                expr(deep + 1);
            }
            say(")");
        }
    }

    /** Parentheses up to about as many as there may be. */
    private void nest(int more) {
        int many = Math.max(0, more - 1 + random.nextInt(3));
        for (int i = 0; i < many; i++) {
            say("(");
        }
        say(random.nextInt(3) == 0 ? SLIPS[random.nextInt(SLIPS.length)] : "price");
        for (int i = 0; i < many; i++) {
            say(")");
        }
    }
}

import java.util.ArrayList;
import java.util.HashSet;
import java.util.List;
import java.util.Map;
import java.util.Set;

/** The text of a LAW read once more for the Model: all TOKENS first, then the clauses, with FAULTS thrown. */
final class LawText {
    /** An EXPR that was read. */
    interface Expr {
        int of(Map<String, Integer> values);
    }

    private record Token(char kind, String text, int place) {
        boolean is(String what) {
            return text.equals(what);
        }
    }

    private static final class Fault extends RuntimeException {
        private static final long serialVersionUID = 1L;
        final int number;
        final int place;

        Fault(int number, Token at) {
            this.number = number;
            this.place = at.place;
        }
    }

    private static final Set<String> VALUES =
            Set.of("price", "seller", "buyer", "how", "artist", "held", "from", "again", "joint", "edition");
    private static final Set<String> CLAUSES =
            Set.of("due", "step", "rest", "least", "most", "years", "claim", "agrees");

    int fault = 0;
    int place = -1;
    Expr due = null;
    final List<long[]> steps = new ArrayList<>();
    long rest = 0;
    long least = 0;
    long most = Long.MAX_VALUE;
    int years = 70;
    long claim = 300;
    final Set<Integer> agrees = new HashSet<>();

    private final List<Token> tokens = new ArrayList<>();
    private int at = 0;

    static LawText of(String text, int lands) {
        LawText read = new LawText();
        read.split(text);
        try {
            for (int clauses = 0; read.now().kind != '.'; clauses++) {
                read.clause(clauses, lands);
            }
        } catch (Fault f) {
            read.fault = f.number;
            read.place = f.place;
        }
        return read;
    }

    long part(long price) {
        long all = 0;
        long below = 0;
        for (long[] step : steps) {
            all += Math.max(0, Math.min(price, step[0]) - below) * step[1];
            below = step[0];
        }
        all += Math.max(0, price - below) * rest;
        return Math.min(most, all / 10000);
    }

    private void split(String text) {
        var rows = java.util.regex.Pattern.compile("([a-z]+)|([0-9]+)|([;()+*/<=-])|([ \n]+)|(.)",
                java.util.regex.Pattern.DOTALL).matcher(text);
        while (rows.find()) {
            String kinds = "w0s !";
            for (int group = 1; group <= 5; group++) {
                if (rows.group(group) != null && group != 4) {
                    tokens.add(new Token(kinds.charAt(group - 1), rows.group(), rows.start()));
                }
            }
        }
        tokens.add(new Token('.', "", text.length()));
    }

    private Token now() {
        return tokens.get(at);
    }

    private boolean take(String sign) {
        boolean there = now().is(sign);
        at += there ? 1 : 0;
        return there;
    }

    private void must(String sign) {
        if (!take(sign)) {
            throw new Fault(1, now());
        }
    }

    private int number(int least, int most) {
        Token t = now();
        if (t.kind != '0') {
            throw new Fault(1, t);
        }
        if (t.text.length() > 8 || Integer.parseInt(t.text) < least || Integer.parseInt(t.text) > most) {
            throw new Fault(2, t);
        }
        at++;
        return Integer.parseInt(t.text);
    }

    private void clause(int clauses, int lands) {
        Token t = now();
        if (!CLAUSES.contains(t.text)) {
            throw new Fault(1, t);
        }
        if (clauses == 16) {
            throw new Fault(2, t);
        }
        at++;
        switch (t.text) {
            case "due" -> due = expr(0);
            case "step" -> {
                int ahead = steps.isEmpty() ? 0 : (int) steps.get(steps.size() - 1)[0];
                steps.add(new long[] {number(ahead + 1, 99999999), number(0, 10000)});
            }
            case "rest" -> rest = number(0, 10000);
            case "least" -> least = number(0, 99999999);
            case "most" -> most = number(0, 99999999);
            case "years" -> years = number(0, 200);
            case "claim" -> claim = number(0, 99999999);
            default -> {
                int land = number(0, 99999999);
                if (land >= lands) {
                    at--;
                    throw new Fault(4, now());
                }
                agrees.add(land);
            }
        }
        must(";");
    }

    private Expr expr(int within) {
        if (within == 6 && (now().kind == '0' || now().kind == 'w' || now().is("("))) {
            throw new Fault(2, now());
        }
        Expr all = and(within);
        while (take("or")) {
            Expr left = all;
            Expr right = and(within);
            all = v -> left.of(v) != 0 | right.of(v) != 0 ? 1 : 0;
        }
        return all;
    }

    private Expr and(int within) {
        Expr all = not(within, 0);
        while (take("and")) {
            Expr left = all;
            Expr right = not(within, 0);
            all = v -> left.of(v) != 0 & right.of(v) != 0 ? 1 : 0;
        }
        return all;
    }

    private Expr not(int within, int nots) {
        if (now().is("not")) {
            if (nots == 6) {
                throw new Fault(2, now());
            }
            at++;
            Expr of = not(within, nots + 1);
            return v -> of.of(v) == 0 ? 1 : 0;
        }
        Expr left = sum(within);
        if (take("<")) {
            Expr right = sum(within);
            return v -> left.of(v) < right.of(v) ? 1 : 0;
        }
        if (take("=")) {
            Expr right = sum(within);
            return v -> left.of(v) == right.of(v) ? 1 : 0;
        }
        return left;
    }

    private Expr sum(int within) {
        Expr all = product(within);
        while (now().is("+") || now().is("-")) {
            Expr left = all;
            boolean plus = now().is("+");
            at++;
            Expr right = product(within);
            all = v -> plus ? left.of(v) + right.of(v) : left.of(v) - right.of(v);
        }
        return all;
    }

    private Expr product(int within) {
        Expr all = part(within);
        while (now().is("*") || now().is("/")) {
            Expr left = all;
            boolean times = now().is("*");
            at++;
            Expr right = part(within);
            all = v -> times ? left.of(v) * right.of(v) : right.of(v) == 0 ? 0 : left.of(v) / right.of(v);
        }
        return all;
    }

    private Expr part(int within) {
        Token t = now();
        if (t.kind == '0') {
            int number = number(0, 99999999);
            return v -> number;
        }
        if (t.kind == 'w') {
            if (!VALUES.contains(t.text)) {
                throw new Fault(3, t);
            }
            at++;
            return v -> v.get(t.text);
        }
        must("(");
        Expr inner = expr(within + 1);
        must(")");
        return inner;
    }
}

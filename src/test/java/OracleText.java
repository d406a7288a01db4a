import java.util.ArrayList;
import java.util.List;
import java.util.TreeMap;

/** Reads a text by going down from clauses to terms to parts. */
final class OracleText {
    int fault = Oracle.NONE;
    int clauses = 0;
    final TreeMap<Integer, TreeMap<Integer, Integer>> result = new TreeMap<>();

    private record Token(String sign, int start) { }

    private final List<Token> tokens = new ArrayList<>();
    private int at = 0;

    private static final class Fault extends RuntimeException {
        private static final long serialVersionUID = 1;
        final int start;

        Fault(int start) {
            this.start = start;
        }
    }

    OracleText(String text) {
        java.util.regex.Matcher matcher = java.util.regex.Pattern.compile("[0-9]+|[^ ]", java.util.regex.Pattern.DOTALL).matcher(text);
        while (matcher.find()) {
            tokens.add(new Token(matcher.group(), matcher.start()));
        }
        tokens.add(new Token("end", text.length()));
        try {
            do {
                clause();
            } while (takes(";", clauses < 24));
            take("end");
        } catch (Fault found) {
            fault = found.start;
        }
    }

    private String sign() {
        return tokens.get(at).sign();
    }

    private String take(String pattern) {
        if (!sign().matches(pattern)) {
            throw new Fault(tokens.get(at).start());
        }
        return tokens.get(at++).sign();
    }

    private boolean takes(String pattern, boolean allowed) {
        if (allowed && sign().matches(pattern)) {
            at++;
            return true;
        }
        return false;
    }

    private void clause() {
        int curve = Integer.parseInt(take("[01]"));
        clauses++;
        take(":");
        TreeMap<Integer, Integer> terms = new TreeMap<>();
        do {
            Integer[] term = new Integer[3];
            int parts = 0;
            do {
                part(term);
                parts++;
            } while (takes("\\+", parts < 3));
            terms.merge(5 * or(term[1]) + or(term[2]), or(term[0]), Math::min);
        } while (takes(",", true));
        result.put(curve, terms);
    }

    private static int or(Integer number) {
        return number == null ? 0 : number;
    }

    private boolean letter(Integer[] term, int power) {
        int which = sign().equals("x") ? 1 : sign().equals("y") ? 2 : 0;
        if (which == 0 || term[which] != null || power + or(term[3 - which]) > 4) {
            return false;
        }
        term[which] = power;
        at++;
        return true;
    }

    private void part(Integer[] term) {
        if (sign().equals("-") && term[0] == null) {
            at++;
            term[0] = -Integer.parseInt(take("[0-9]{1,3}"));
        } else if (!letter(term, 1)) {
            int digits = Integer.parseInt(take("[0-9]{1,3}"));
            if (!letter(term, digits)) {
                if (term[0] != null) {
                    throw new Fault(tokens.get(at).start());
                }
                term[0] = digits;
            }
        }
    }
}

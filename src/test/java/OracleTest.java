import java.util.Random;

/** Long runs of calls, each answer compared with the oracle's. The seeds are fixed: every run is the same again. */
public final class OracleTest {
    private static final Check check = new Check();

    private final Random random;
    private LeastCurves x = new LeastCurves();
    private Oracle o = new Oracle();
    private int calls = 0;
    private LeastCurves twin;
    private int callsOfTwin = 0;
    private final int spread;
    private final String name;

    private OracleTest(long seed) {
        random = new Random(seed);
        spread = new int[] {1, 3, 8, 40, 999}[(int) (seed % 5)];
        name = "seed " + seed + ": ";
    }

    public static void main(String[] args) {
        int runs = args.length > 0 ? Integer.parseInt(args[0]) : 60;
        int first = args.length > 1 ? Integer.parseInt(args[1]) : 1;
        for (int run = 0; run < runs && !check.hasWrong(); run++) {
            new OracleTest(first + run).run();
        }
        check.end("OracleTest");
    }

    private void run() {
        for (int call = 0; call < 60; call++) {
            change();
            if (random.nextInt(3) == 0) {
                lookAtAll();
            } else {
                for (int k = 0; k < 6; k++) {
                    look();
                }
            }
        }
    }

    /** The object; after 512 calls a new one with the same terms, for then what the old one answers is free. */
    private LeastCurves x() {
        if (calls == 512) {
            Oracle before = o;
            x = new LeastCurves();
            o = new Oracle();
            calls = putTerms(before, x, o);
        }
        calls++;
        return x;
    }

    /** Another object with the same terms, to be looked at as often as one likes. */
    private LeastCurves twin() {
        if (twin == null || callsOfTwin == 512) {
            twin = new LeastCurves();
            callsOfTwin = putTerms(o, twin, null);
        }
        callsOfTwin++;
        return twin;
    }

    private static int putTerms(Oracle of, LeastCurves into, Oracle too) {
        int puts = 0;
        for (int place = 0; place < 42; place++) {
            int c = of.term(place / 21, place % 21 / 5, place % 21 % 5);
            if (c >= -999) {
                into.put(place / 21, place % 21 / 5, place % 21 % 5, c);
                if (too != null) {
                    too.put(place / 21, place % 21 / 5, place % 21 % 5, c);
                }
                puts++;
            }
        }
        return puts;
    }

    private int below(int bound) {
        return random.nextInt(bound);
    }

    private int c() {
        return below(spread * 2 + 1) - spread;
    }

    /** Mostly within 0 to most, now and then outside. */
    private int odd(int most) {
        int kind = below(40);
        if (kind == 0) {
            return new int[] {Integer.MAX_VALUE, Integer.MIN_VALUE, Oracle.NONE, -1, most + 1}[below(5)];
        }
        return kind == 1 ? -1 : kind == 2 ? most + 1 : below(most + 1);
    }

    private void due(String call, long got, long want) {
        check.due(name + call, got, want);
    }

    private void change() {
        int curve = odd(1);
        int i = odd(4);
        int j = below(8) == 0 ? odd(4) : i >= 0 && i <= 4 ? below(5 - i) : 0;
        switch (below(15)) {
            case 0, 1, 2, 3, 4 -> {
                int c = below(30) == 0 ? odd(999) : c();
                due("put(" + curve + ", " + i + ", " + j + ", " + c + ")", x().put(curve, i, j, c), o.put(curve, i, j, c));
            }
            case 5 -> due("drop(" + curve + ", " + i + ", " + j + ")", x().drop(curve, i, j), o.drop(curve, i, j));
            case 6 -> {
                int most = below(3) == 0 ? 101 : 5;
                int dx = below(2 * most + 1) - most;
                int dy = below(2 * most + 1) - most;
                due("move(" + curve + ", " + dx + ", " + dy + ")", x().move(curve, dx, dy), o.move(curve, dx, dy));
            }
            case 7 -> due("mirror(" + curve + ")", x().mirror(curve), o.mirror(curve));
            case 8 -> due("join(" + curve + ")", x().join(curve), o.join(curve));
            case 9 -> due("times(" + curve + ")", x().times(curve), o.times(curve));
            case 10 -> {
                for (int k = below(4); k >= 0; k--) {
                    due("undo()", x().undo(), o.undo());
                }
            }
            case 11 -> {
                int k = odd(1);
                due("keep(" + k + ")", x().keep(k), o.keep(k));
            }
            case 12 -> {
                int k = odd(1);
                due("back(" + k + ")", x().back(k), o.back(k));
            }
            case 13 -> fill(below(2), below(3) * 2 + spread / 4);
            default -> text();
        }
    }

    /** A curve of which most terms are seen. */
    private void fill(int curve, int steep) {
        int degree = 2 + below(3);
        for (int place = 0; place < 25; place++) {
            int i = place / 5;
            int j = place % 5;
            if (i + j <= degree && below(12) > 0) {
                int c = Math.max(-999, Math.min(999, steep * (i * i + i * j + j * j) + c() / 3));
                due("put " + place, x().put(curve, i, j, c), o.put(curve, i, j, c));
            }
        }
    }

    private String power(String letter, int most) {
        int power = below(12) == 0 ? below(7) : below(most + 1);
        return power == 1 && below(2) == 0 ? letter : power + letter;
    }

    private String term() {
        StringBuilder term = new StringBuilder();
        int degree = below(5);
        int i = below(degree + 1);
        String[] parts = {String.valueOf(c()), power("x", i), power("y", degree - i)};
        int first = below(3);
        int way = 1 + below(2);
        int many = 1 + below(3);
        for (int k = 0; k < many; k++) {
            term.append(k == 0 ? "" : "+").append(parts[(first + way * k) % 3]);
        }
        return term.toString();
    }

    private String clauses() {
        StringBuilder text = new StringBuilder();
        int clauses = below(20) == 0 ? 22 + below(5) : 1 + below(3);
        for (int k = 0; k < clauses; k++) {
            text.append(k == 0 ? "" : ";").append(below(2)).append(":");
            int terms = clauses > 9 ? 1 : 1 + below(below(2) == 0 ? 3 : 14);
            for (int t = 0; t < terms; t++) {
                text.append(t == 0 ? "" : ",").append(clauses > 9 ? "" + below(4) + "xy".charAt(below(2)) : term());
            }
        }
        return text.toString();
    }

    private void text() {
        StringBuilder text = new StringBuilder(clauses());
        for (int k = below(5) - 2; k > 0; k--) {
            int at = below(text.length() + 1);
            switch (below(4)) {
                case 0 -> text.insert(at, ' ');
                case 1 -> text.deleteCharAt(Math.min(at, text.length() - 1));
                default -> text.insert(at, "01xy+-,;: 9\t\u00ff".charAt(below(13)));
            }
            text.append(' ');
        }
        if (below(3) == 0) {
            due("erase()", x().erase(), o.erase());
        }
        for (int k = 0; k < text.length(); k++) {
            due("write(" + (int) text.charAt(k) + ")", x().write(text.charAt(k)), o.write(text.charAt(k)));
        }
        int letter = odd(255);
        if (letter < 0 || letter > 255) {
            due("write(" + letter + ")", x().write(letter), o.write(letter));
        }
        due("fault() of \"" + text + "\"", x().fault(), o.fault());
        due("curves() of \"" + text + "\"", x().curves(), o.curves());
        if (below(2) == 0) {
            due("erase()", x().erase(), o.erase());
        }
    }

    private void look() {
        int curve = odd(1);
        int what = odd(11);
        int corner = odd(below(2) == 0 ? 3 : 15);
        int to = odd(below(2) == 0 ? 3 : 15);
        int i = odd(4);
        int j = odd(4);
        String at = "(" + curve + ", " + corner + ", " + what + ")";
        String place = "(" + curve + ", " + i + ", " + j + ", " + what + ")";
        switch (below(10)) {
            case 0 -> due("corner" + at, x().corner(curve, corner, what), o.corner(curve, corner, what));
            case 1 -> due("edge" + at, x().edge(curve, corner, what), o.edge(curve, corner, what));
            case 2 -> due("meeting of " + at, x().meeting(corner, what), o.meeting(corner, what));
            case 3 -> due("count" + at, x().count(curve, what), o.count(curve, what));
            case 4 -> due("tally of " + at, x().tally(what), o.tally(what));
            case 5 -> due("lift" + place, x().lift(curve, i, j), o.lift(curve, i, j));
            case 6 -> due("term" + place, x().term(curve, i, j), o.term(curve, i, j));
            case 7 -> due("region" + place, x().region(curve, i, j, what % 6), o.region(curve, i, j, what % 6));
            case 8 -> due("way" + at + to, x().way(curve, corner, to, what % 5), o.way(curve, corner, to, what % 5));
            default -> value(curve);
        }
    }

    private void value(int curve) {
        int most = below(4) == 0 ? 10010 : 20;
        int px = below(2 * most + 1) - most;
        int py = below(2 * most + 1) - most;
        int d = below(3) == 0 ? odd(61) : 1;
        int what = below(10) == 0 ? odd(1) : below(2);
        due("value(" + curve + ", " + px + ", " + py + ", " + d + ", " + what + ")", x().value(curve, px, py, d, what), o.value(curve, px, py, d, what));
    }

    private void lookAtAll() {
        twin = null;
        for (int curve = 0; curve < 2; curve++) {
            int own = curve;
            for (int what = -1; what < 13; what++) {
                due("count(" + curve + ", " + what + ")", twin().count(curve, what), o.count(curve, what));
            }
            for (int k = -1; k <= o.count(curve, 2); k++) {
                int corner = k;
                rows("corner(" + curve + ", " + k + ", ..)", 8, w -> twin().corner(own, corner, w), w -> o.corner(own, corner, w));
                for (int t = -1; t <= o.count(curve, 2); t++) {
                    int to = t;
                    rows("way(" + curve + ", " + k + ", " + t + ", ..)", 4, w -> twin().way(own, corner, to, w), w -> o.way(own, corner, to, w));
                }
            }
            for (int k = -1; k <= o.count(curve, 3); k++) {
                int edge = k;
                rows("edge(" + curve + ", " + k + ", ..)", 11, w -> twin().edge(own, edge, w), w -> o.edge(own, edge, w));
            }
            for (int place = 0; place < 25; place++) {
                int i = place / 5;
                int j = place % 5;
                due("term " + place, twin().term(curve, i, j), o.term(curve, i, j));
                due("lift(" + curve + ", " + i + ", " + j + ")", twin().lift(curve, i, j), o.lift(curve, i, j));
                rows("region(" + curve + ", " + i + ", " + j + ", ..)", 5, w -> twin().region(own, i, j, w), w -> o.region(own, i, j, w));
            }
        }
        rows("tally(..)", 8, w -> w < 5 ? twin().tally(w) : x().tally(w), w -> o.tally(w));
        for (int k = -1; k <= o.tally(0); k++) {
            int meeting = k;
            rows("meeting(" + k + ", ..)", 7, w -> twin().meeting(meeting, w), w -> o.meeting(meeting, w));
        }
    }

    private void rows(String call, int most, Check.Asked got, Check.Asked want) {
        for (int what = -1; what < most; what++) {
            due(call + " of " + what, got.at(what), want.at(what));
        }
    }
}

import java.util.ArrayList;
import java.util.Arrays;
import java.util.List;
import java.util.Map;
import java.util.TreeMap;

/** What the document says of all calls, written straight from its words and without regard to speed. */
final class Oracle {
    static final int NONE = -1000000, UNKNOWN = -1000001, OUTSIDE = -1000002, NOT = -1000003, FULL = -1000004;

    private String text = "";
    private List<TreeMap<Integer, Integer>> curves = List.of(new TreeMap<>(), new TreeMap<>());
    private final List<List<TreeMap<Integer, Integer>>> past = new ArrayList<>();
    private final Map<Integer, List<TreeMap<Integer, Integer>>> slots = new TreeMap<>();
    private final OracleCurve[] seen = new OracleCurve[2];
    private OracleMeetings seenMeetings;

    private static List<TreeMap<Integer, Integer>> copy(List<TreeMap<Integer, Integer>> of) {
        return List.of(new TreeMap<>(of.get(0)), new TreeMap<>(of.get(1)));
    }

    private OracleCurve curve(int k) {
        if (seen[k] == null || !seen[k].terms.equals(curves.get(k))) {
            seen[k] = new OracleCurve(new TreeMap<>(curves.get(k)));
            seenMeetings = null;
        }
        return seen[k];
    }

    private OracleMeetings meetings() {
        OracleCurve one = curve(0);
        OracleCurve other = curve(1);
        if (seenMeetings == null) {
            seenMeetings = new OracleMeetings(one, other);
        }
        return seenMeetings;
    }

    private static boolean noCurve(int curve) {
        return curve < 0 || curve > 1;
    }

    private static boolean noPlace(long i, long j) {
        return i < 0 || j < 0 || i + j > 4;
    }

    private static boolean off(long number, long least, long most) {
        return number < least || number > most;
    }

    private void remember() {
        past.add(copy(curves));
        if (past.size() > 8) {
            past.remove(0);
        }
    }

    int write(int letter) {
        if (off(letter, 0, 255)) {
            return OUTSIDE;
        }
        if (text.length() == 200) {
            return FULL;
        }
        text += (char) letter;
        return text.length();
    }

    int erase() {
        int had = text.length();
        text = "";
        return had;
    }

    int fault() {
        return new OracleText(text).fault;
    }

    int curves() {
        OracleText read = new OracleText(text);
        if (read.fault != NONE) {
            return NOT;
        }
        for (Map.Entry<Integer, TreeMap<Integer, Integer>> named : read.result.entrySet()) {
            curves.get(named.getKey()).clear();
            curves.get(named.getKey()).putAll(named.getValue());
        }
        text = "";
        past.clear();
        slots.clear();
        return read.clauses;
    }

    int term(int curve, int i, int j) {
        if (noCurve(curve)) {
            return UNKNOWN;
        }
        return noPlace(i, j) ? OUTSIDE : curves.get(curve).getOrDefault(5 * i + j, NONE);
    }

    int value(int curve, int x, int y, int d, int what) {
        if (noCurve(curve)) {
            return UNKNOWN;
        }
        if (off(x, -9999, 9999) || off(y, -9999, 9999) || off(d, 1, 60) || off(what, 0, 1)) {
            return OUTSIDE;
        }
        if (curves.get(curve).isEmpty()) {
            return NOT;
        }
        OracleCurve shape = curve(curve);
        Fraction[] point = {Fraction.of(x, d), Fraction.of(y, d)};
        return what == 1 ? shape.leading(point) : (int) shape.value(point).times(Fraction.of(d, 1)).tell(true);
    }

    int put(int curve, int i, int j, int c) {
        if (noCurve(curve)) {
            return UNKNOWN;
        }
        if (noPlace(i, j) || off(c, -999, 999)) {
            return OUTSIDE;
        }
        remember();
        curves.get(curve).put(5 * i + j, c);
        return curves.get(curve).size();
    }

    int drop(int curve, int i, int j) {
        if (noCurve(curve)) {
            return UNKNOWN;
        }
        if (noPlace(i, j)) {
            return OUTSIDE;
        }
        if (!curves.get(curve).containsKey(5 * i + j)) {
            return NOT;
        }
        remember();
        curves.get(curve).remove(5 * i + j);
        return curves.get(curve).size();
    }

    private void become(int curve, Map<Integer, Integer> terms) {
        remember();
        curves.get(curve).clear();
        curves.get(curve).putAll(terms);
    }

    int move(int curve, int dx, int dy) {
        if (noCurve(curve)) {
            return UNKNOWN;
        }
        if (off(dx, -99, 99) || off(dy, -99, 99)) {
            return OUTSIDE;
        }
        TreeMap<Integer, Integer> then = new TreeMap<>();
        int changed = 0;
        for (Map.Entry<Integer, Integer> term : curves.get(curve).entrySet()) {
            int c = term.getValue() - term.getKey() / 5 * dx - term.getKey() % 5 * dy;
            if (off(c, -999, 999)) {
                return NOT;
            }
            changed += c == term.getValue() ? 0 : 1;
            then.put(term.getKey(), c);
        }
        become(curve, then);
        return changed;
    }

    int mirror(int curve) {
        if (noCurve(curve)) {
            return UNKNOWN;
        }
        TreeMap<Integer, Integer> then = new TreeMap<>();
        int changed = 0;
        for (Map.Entry<Integer, Integer> term : curves.get(curve).entrySet()) {
            int i = term.getKey() / 5;
            int j = term.getKey() % 5;
            changed += i == j ? 0 : 1;
            then.put(5 * j + i, term.getValue());
        }
        become(curve, then);
        return changed;
    }

    int join(int curve) {
        if (noCurve(curve)) {
            return UNKNOWN;
        }
        TreeMap<Integer, Integer> then = new TreeMap<>(curves.get(0));
        curves.get(1).forEach((place, c) -> then.merge(place, c, Math::min));
        become(curve, then);
        return then.size();
    }

    int times(int curve) {
        if (noCurve(curve)) {
            return UNKNOWN;
        }
        TreeMap<Integer, Integer> then = new TreeMap<>();
        for (int a : curves.get(0).keySet()) {
            for (int b : curves.get(1).keySet()) {
                if (a / 5 + a % 5 + b / 5 + b % 5 > 4) {
                    return NOT;
                }
                then.merge(a + b, curves.get(0).get(a) + curves.get(1).get(b), Math::min);
            }
        }
        if (then.isEmpty() || then.values().stream().anyMatch(c -> off(c, -999, 999))) {
            return NOT;
        }
        become(curve, then);
        return then.size();
    }

    int undo() {
        if (past.isEmpty()) {
            return NOT;
        }
        curves = past.remove(past.size() - 1);
        return past.size();
    }

    private int size() {
        return curves.get(0).size() + curves.get(1).size();
    }

    int keep(int k) {
        if (off(k, 0, 1)) {
            return OUTSIDE;
        }
        slots.put(k, copy(curves));
        return size();
    }

    int back(int k) {
        if (off(k, 0, 1)) {
            return OUTSIDE;
        }
        if (!slots.containsKey(k)) {
            return NOT;
        }
        curves = copy(slots.get(k));
        past.clear();
        return size();
    }

    int corner(int curve, int corner, int what) {
        if (noCurve(curve) || off(corner, 0, curve(curve).corners.size() - 1)) {
            return UNKNOWN;
        }
        if (off(what, 0, 6)) {
            return OUTSIDE;
        }
        OracleCurve shape = curve(curve);
        Fraction[] point = shape.corners.get(corner);
        if (what < 4) {
            return (int) point[what / 2].tell(what % 2 == 0);
        }
        if (what == 4) {
            return OracleMeetings.area(shape.leading(point));
        }
        return what == 5 ? (int) shape.edges.stream().filter(e -> e.start == corner || e.end == corner).count() : shape.leading(point);
    }

    int edge(int curve, int edge, int what) {
        if (noCurve(curve) || off(edge, 0, curve(curve).edges.size() - 1)) {
            return UNKNOWN;
        }
        if (off(what, 0, 9)) {
            return OUTSIDE;
        }
        OracleCurve shape = curve(curve);
        OracleCurve.Edge e = shape.edges.get(edge);
        return switch (what) {
            case 0 -> e.foot;
            case 1 -> e.head;
            case 2 -> e.weight;
            case 3 -> e.start;
            case 4 -> e.end;
            case 5 -> e.u;
            case 6 -> e.v;
            case 7, 8 -> e.length == null ? NONE : (int) e.length.tell(what == 7);
            default -> shape.isBridge(edge) ? 1 : 0;
        };
    }

    long region(int curve, int i, int j, int what) {
        if (noCurve(curve)) {
            return UNKNOWN;
        }
        if (noPlace(i, j) || off(what, 0, 3)) {
            return OUTSIDE;
        }
        int place = 5 * i + j;
        if (!curves.get(curve).containsKey(place)) {
            return NOT;
        }
        OracleCurve shape = curve(curve);
        if (what == 0) {
            return shape.kind(place);
        }
        if (what == 1) {
            return shape.sides(place).size();
        }
        if (shape.kind(place) != 1) {
            return NONE;
        }
        Fraction sum = Fraction.ZERO;
        for (OracleCurve.Edge side : shape.sides(place)) {
            sum = sum.plus(side.length);
        }
        return sum.tell(what == 2);
    }

    int lift(int curve, int i, int j) {
        if (noCurve(curve)) {
            return UNKNOWN;
        }
        return noPlace(i, j) ? OUTSIDE : OracleCurve.lift(curves.get(curve), 5 * i + j);
    }

    long way(int curve, int from, int to, int what) {
        if (noCurve(curve) || off(from, 0, curve(curve).corners.size() - 1) || off(to, 0, curve(curve).corners.size() - 1)) {
            return UNKNOWN;
        }
        if (off(what, 0, 2)) {
            return OUTSIDE;
        }
        OracleCurve shape = curve(curve);
        Fraction length = shape.lengths[from][to];
        if (length == null) {
            return NONE;
        }
        return what == 2 ? shape.steps[from][to] : length.tell(what == 0);
    }

    int meeting(int meeting, int what) {
        if (off(meeting, 0, meetings().points.size() - 1)) {
            return UNKNOWN;
        }
        if (off(what, 0, 5)) {
            return OUTSIDE;
        }
        Fraction[] point = meetings().points.get(meeting);
        if (what < 4) {
            return (int) point[what / 2].tell(what % 2 == 0);
        }
        return what == 4 ? meetings().multiplicities.get(meeting) : isSimple(point);
    }

    private int isSimple(Fraction[] point) {
        return OracleMeetings.area(curve(0).leading(point)) == 0 && OracleMeetings.area(curve(1).leading(point)) == 0 ? 1 : 0;
    }

    int count(int curve, int what) {
        if (noCurve(curve)) {
            return UNKNOWN;
        }
        if (off(what, 0, 11)) {
            return OUTSIDE;
        }
        OracleCurve shape = curve(curve);
        int[] areas = shape.corners.stream().mapToInt(p -> OracleMeetings.area(shape.leading(p))).toArray();
        return switch (what) {
            case 0 -> shape.terms.size();
            case 1 -> (int) shape.terms.keySet().stream().filter(p -> shape.kind(p) != 0).count();
            case 2 -> shape.corners.size();
            case 3 -> shape.edges.size();
            case 4 -> (int) shape.edges.stream().filter(e -> e.end != NONE).count();
            case 5 -> (int) shape.edges.stream().filter(e -> e.start != NONE && e.end == NONE).count();
            case 6 -> (int) shape.terms.keySet().stream().filter(p -> shape.kind(p) == 1).count();
            case 7 -> shape.bridges();
            case 8 -> Arrays.stream(areas).sum();
            case 9 -> areas.length > 0 && Arrays.stream(areas).allMatch(a -> a == 1) ? 1 : 0;
            case 10 -> shape.edges.stream().mapToInt(e -> e.weight).max().orElse(0);
            default -> shape.terms.keySet().stream().mapToInt(p -> p / 5 + p % 5).max().orElse(NONE);
        };
    }

    int tally(int what) {
        if (off(what, 0, 6)) {
            return OUTSIDE;
        }
        return switch (what) {
            case 0 -> meetings().points.size();
            case 1 -> meetings().multiplicities.stream().mapToInt(m -> m).sum();
            case 2 -> OracleMeetings.mixed(curve(0).mask(), curve(1).mask());
            case 3 -> meetings().points.stream().mapToInt(this::isSimple).sum();
            case 4 -> curve(0).pointSets().equals(curve(1).pointSets()) ? 1 : 0;
            case 5 -> past.size();
            default -> text.length();
        };
    }
}

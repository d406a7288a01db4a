import java.util.ArrayList;
import java.util.HashSet;
import java.util.List;
import java.util.Map;
import java.util.Set;
import java.util.TreeMap;

/** Vertices, edges, regions and ways of one curve: each edge is cut out of the line where two terms are equal. */
final class OracleCurve {
    private static final int NONE = Oracle.NONE;

    static final class Edge {
        int foot, head, weight, start = NONE, end = NONE, u, v;
        Fraction length;
        Fraction[] from, to, base;
    }

    final TreeMap<Integer, Integer> terms;
    final List<Edge> edges = new ArrayList<>();
    final List<Fraction[]> corners = new ArrayList<>();
    final Fraction[][] lengths;
    final int[][] steps;

    OracleCurve(TreeMap<Integer, Integer> terms) {
        this.terms = terms;
        for (int foot : terms.keySet()) {
            for (int head : terms.tailMap(foot, false).keySet()) {
                Edge edge = cut(terms, foot, head);
                if (edge != null) {
                    edges.add(edge);
                }
            }
        }
        collectCorners();
        for (Edge edge : edges) {
            orient(edge);
        }
        int many = corners.size();
        lengths = new Fraction[many][many];
        steps = new int[many][many];
        findWays();
    }

    static int compare(Fraction[] a, Fraction[] b) {
        int byX = a[0].compareTo(b[0]);
        return byX != 0 ? byX : a[1].compareTo(b[1]);
    }

    private static Fraction worth(Map.Entry<Integer, Integer> term, Fraction[] point) {
        Fraction ofX = point[0].times(Fraction.of(term.getKey() / 5, 1));
        Fraction ofY = point[1].times(Fraction.of(term.getKey() % 5, 1));
        return Fraction.of(term.getValue(), 1).plus(ofX).plus(ofY);
    }

    private static Fraction value(TreeMap<Integer, Integer> terms, Fraction[] point) {
        return terms.entrySet().stream().map(t -> worth(t, point)).min(Fraction::compareTo).orElseThrow();
    }

    private static int leading(TreeMap<Integer, Integer> terms, Fraction[] point) {
        Fraction least = value(terms, point);
        return terms.entrySet().stream().filter(t -> worth(t, point).equals(least)).mapToInt(t -> 1 << t.getKey()).sum();
    }

    Fraction value(Fraction[] point) {
        return value(terms, point);
    }

    int leading(Fraction[] point) {
        return leading(terms, point);
    }

    int mask() {
        return terms.keySet().stream().mapToInt(p -> 1 << p).sum();
    }

    private static Fraction[] along(Fraction[] base, int u, int v, Fraction t) {
        return new Fraction[] {base[0].plus(t.times(Fraction.of(u, 1))), base[1].plus(t.times(Fraction.of(v, 1)))};
    }

    /** The edge with this foot and this head, its ends as points only; null if there is none. */
    private static Edge cut(TreeMap<Integer, Integer> terms, int foot, int head) {
        int di = head / 5 - foot / 5;
        int dj = head % 5 - foot % 5;
        Edge edge = new Edge();
        edge.foot = foot;
        edge.head = head;
        edge.weight = gcd(Math.abs(di), Math.abs(dj));
        edge.u = dj / edge.weight;
        edge.v = -di / edge.weight;
        if (edge.u < 0 || edge.u == 0 && edge.v < 0) {
            edge.u = -edge.u;
            edge.v = -edge.v;
        }
        long rise = terms.get(head) - terms.get(foot);
        long square = (long) di * di + dj * dj;
        edge.base = new Fraction[] {Fraction.of(-rise * di, square), Fraction.of(-rise * dj, square)};
        Fraction low = null;
        Fraction high = null;
        Fraction own = worth(Map.entry(foot, terms.get(foot)), edge.base);
        for (Map.Entry<Integer, Integer> term : terms.entrySet()) {
            int slope = (term.getKey() / 5 - foot / 5) * edge.u + (term.getKey() % 5 - foot % 5) * edge.v;
            Fraction above = worth(term, edge.base).minus(own);
            if (slope == 0 && above.compareTo(Fraction.ZERO) < 0) {
                return null;
            }
            if (slope != 0) {
                Fraction zero = above.by(Fraction.of(-slope, 1));
                if (slope > 0 && (low == null || zero.compareTo(low) > 0)) {
                    low = zero;
                }
                if (slope < 0 && (high == null || zero.compareTo(high) < 0)) {
                    high = zero;
                }
            }
        }
        if (low != null && high != null && low.compareTo(high) >= 0) {
            return null;
        }
        Fraction one = Fraction.of(1, 1);
        Fraction inside = low == null ? high == null ? Fraction.ZERO : high.minus(one)
            : high == null ? low.plus(one) : low.plus(high).by(Fraction.of(2, 1));
        int set = leading(terms, along(edge.base, edge.u, edge.v, inside));
        if (Integer.numberOfTrailingZeros(set) != foot || 31 - Integer.numberOfLeadingZeros(set) != head) {
            return null;
        }
        edge.from = low == null ? null : along(edge.base, edge.u, edge.v, low);
        edge.to = high == null ? null : along(edge.base, edge.u, edge.v, high);
        edge.length = low == null || high == null ? null : high.minus(low);
        return edge;
    }

    static int gcd(int a, int b) {
        return b == 0 ? a : gcd(b, a % b);
    }

    private int indexOf(Fraction[] point) {
        for (int k = 0; k < corners.size(); k++) {
            if (compare(corners.get(k), point) == 0) {
                return k;
            }
        }
        return -1;
    }

    private void collectCorners() {
        for (Edge edge : edges) {
            for (Fraction[] end : new Fraction[][] {edge.from, edge.to}) {
                if (end != null && indexOf(end) < 0) {
                    corners.add(end);
                }
            }
        }
        corners.sort(OracleCurve::compare);
    }

    private void orient(Edge edge) {
        int from = edge.from == null ? NONE : indexOf(edge.from);
        int to = edge.to == null ? NONE : indexOf(edge.to);
        boolean turned = from == NONE && to != NONE || from != NONE && to != NONE && to < from;
        edge.start = turned ? to : from;
        edge.end = turned ? from : to;
        if (turned) {
            edge.u = -edge.u;
            edge.v = -edge.v;
        }
    }

    List<Edge> sides(int place) {
        return edges.stream().filter(e -> e.foot == place || e.head == place).toList();
    }

    private static boolean isHidden(TreeMap<Integer, Integer> terms, int place) {
        for (int other : terms.keySet()) {
            if (other != place && cut(terms, Math.min(place, other), Math.max(place, other)) != null) {
                return false;
            }
        }
        return terms.size() > 1;
    }

    int kind(int place) {
        if (isHidden(terms, place)) {
            return 0;
        }
        return !sides(place).isEmpty() && sides(place).stream().allMatch(e -> e.length != null) ? 1 : 2;
    }

    /** A term that is seen with some c is seen with each smaller one. */
    static int lift(TreeMap<Integer, Integer> terms, int place) {
        TreeMap<Integer, Integer> with = new TreeMap<>(terms);
        int seen = -1000;
        int hidden = 1000;
        while (hidden - seen > 1) {
            int c = Math.floorDiv(seen + hidden, 2);
            with.put(place, c);
            if (isHidden(with, place)) {
                hidden = c;
            } else {
                seen = c;
            }
        }
        return seen == -1000 ? NONE : seen;
    }

    private void reach(int corner, Edge without, Set<Integer> reached) {
        if (!reached.add(corner)) {
            return;
        }
        for (Edge edge : edges) {
            if (edge != without && edge.end != NONE && edge.start == corner) {
                reach(edge.end, without, reached);
            } else if (edge != without && edge.end == corner) {
                reach(edge.start, without, reached);
            }
        }
    }

    boolean isBridge(int at) {
        Edge edge = edges.get(at);
        if (edge.end == NONE) {
            return false;
        }
        Set<Integer> reached = new HashSet<>();
        reach(edge.start, edge, reached);
        return !reached.contains(edge.end);
    }

    int bridges() {
        int found = 0;
        for (int k = 0; k < edges.size(); k++) {
            found += isBridge(k) ? 1 : 0;
        }
        return found;
    }

    private void shorten(int a, int b, Fraction length, int many) {
        int compared = lengths[a][b] == null ? 1 : lengths[a][b].compareTo(length);
        if (compared > 0 || compared == 0 && steps[a][b] > many) {
            lengths[a][b] = length;
            steps[a][b] = many;
        }
    }

    /** By Floyd and Warshall. */
    private void findWays() {
        int many = corners.size();
        for (Edge edge : edges) {
            if (edge.end != NONE) {
                shorten(edge.start, edge.end, edge.length, 1);
                shorten(edge.end, edge.start, edge.length, 1);
            }
        }
        for (int k = 0; k < many; k++) {
            lengths[k][k] = Fraction.ZERO;
            steps[k][k] = 0;
        }
        for (int over = 0; over < many; over++) {
            for (int a = 0; a < many; a++) {
                for (int b = 0; b < many; b++) {
                    if (lengths[a][over] != null && lengths[over][b] != null) {
                        shorten(a, b, lengths[a][over].plus(lengths[over][b]), steps[a][over] + steps[over][b]);
                    }
                }
            }
        }
    }

    private static String told(Fraction[] point) {
        return point == null ? "none" : point[0] + " " + point[1];
    }

    /** The edges as sets of points with weights; the base is the point of the line nearest to (0, 0). */
    Set<String> pointSets() {
        Set<String> sets = new HashSet<>();
        for (Edge e : edges) {
            boolean forward = e.u > 0 || e.u == 0 && e.v > 0;
            sets.add(told(e.base) + (forward ? e.u + " " + e.v : -e.u + " " + -e.v) + told(e.from) + told(e.to) + e.weight);
        }
        return sets;
    }
}

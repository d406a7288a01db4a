import java.util.ArrayList;
import java.util.List;
import java.util.TreeSet;

/** The intersections, looked for at every point where two terms of each curve are equal. */
final class OracleMeetings {
    final List<Fraction[]> points = new ArrayList<>();
    final List<Integer> multiplicities = new ArrayList<>();

    OracleMeetings(OracleCurve one, OracleCurve other) {
        TreeSet<Fraction[]> found = new TreeSet<>(OracleCurve::compare);
        for (int[] a : lines(one)) {
            for (int[] b : lines(other)) {
                long whole = (long) a[0] * b[1] - (long) a[1] * b[0];
                if (whole != 0) {
                    long x = (long) a[1] * b[2] - (long) b[1] * a[2];
                    long y = (long) b[0] * a[2] - (long) a[0] * b[2];
                    if (isOn(one, x, y, whole) && isOn(other, x, y, whole)) {
                        found.add(new Fraction[] {Fraction.of(x, whole), Fraction.of(y, whole)});
                    }
                }
            }
        }
        found.addAll(one.corners);
        found.addAll(other.corners);
        for (Fraction[] point : found) {
            int multiplicity = one.terms.isEmpty() || other.terms.isEmpty() ? 0 : mixed(one.leading(point), other.leading(point));
            if (multiplicity > 0) {
                points.add(point);
                multiplicities.add(multiplicity);
            }
        }
    }

    /** Whether at least two terms are least there; only to be quicker. */
    private static boolean isOn(OracleCurve curve, long x, long y, long d) {
        long least = Long.MAX_VALUE;
        int many = 0;
        for (int place : curve.terms.keySet()) {
            long worth = (d < 0 ? -1 : 1) * (d * curve.terms.get(place) + place / 5 * x + place % 5 * y);
            many = worth < least ? 1 : worth == least ? many + 1 : many;
            least = Math.min(least, worth);
        }
        return many > 1;
    }

    private static List<int[]> lines(OracleCurve curve) {
        List<int[]> lines = new ArrayList<>();
        for (int a : curve.terms.keySet()) {
            for (int b : curve.terms.tailMap(a, false).keySet()) {
                lines.add(new int[] {b / 5 - a / 5, b % 5 - a % 5, curve.terms.get(b) - curve.terms.get(a)});
            }
        }
        return lines;
    }

    private static List<int[]> places(int mask) {
        List<int[]> places = new ArrayList<>();
        for (int k = 0; k < 21; k++) {
            if ((mask >> k & 1) == 1) {
                places.add(new int[] {k / 5, k % 5});
            }
        }
        return places;
    }

    static int area(int mask) {
        return area(places(mask));
    }

    static int mixed(int one, int other) {
        if (one == 0 || other == 0) {
            return 0;
        }
        List<int[]> sums = new ArrayList<>();
        for (int[] a : places(one)) {
            for (int[] b : places(other)) {
                sums.add(new int[] {a[0] + b[0], a[1] + b[1]});
            }
        }
        return (area(sums) - area(one) - area(other)) / 2;
    }

    /** Twice the area of the hull, which is wound up from below to above and back. */
    private static int area(List<int[]> points) {
        List<int[]> sorted = new ArrayList<>(points);
        sorted.sort((a, b) -> a[0] != b[0] ? a[0] - b[0] : a[1] - b[1]);
        List<int[]> hull = new ArrayList<>();
        for (int half = 0; half < 2; half++) {
            int first = hull.size();
            for (int[] p : sorted) {
                while (hull.size() > first + 1 && cross(hull.get(hull.size() - 2), hull.get(hull.size() - 1), p) <= 0) {
                    hull.remove(hull.size() - 1);
                }
                hull.add(p);
            }
            java.util.Collections.reverse(sorted);
        }
        int sum = 0;
        for (int k = 0; k < hull.size(); k++) {
            int[] a = hull.get(k);
            int[] b = hull.get((k + 1) % hull.size());
            sum += a[0] * b[1] - a[1] * b[0];
        }
        return sum;
    }

    private static int cross(int[] a, int[] b, int[] k) {
        return (b[0] - a[0]) * (k[1] - a[1]) - (b[1] - a[1]) * (k[0] - a[0]);
    }
}

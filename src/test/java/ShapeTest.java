/** Promises 17 to 21 and 23: vertices, edges, regions, lifting, ways and counts of one curve. */
public final class ShapeTest {
    private static final int NONE = -1000000, UNKNOWN = -1000001, OUTSIDE = -1000002, NOT = -1000003;
    private static final int MOST = Integer.MAX_VALUE, LEAST = Integer.MIN_VALUE;
    /** Six-sided cells all over: c = i i + i j + j j. */
    private static final String COMB = "0:0,1+x,1+y,4+2x,3+x+y,4+2y,9+3x,7+2x+y,7+x+2y,9+3y";
    private static final Check check = new Check();

    public static void main(String[] args) {
        cornersOfOneCell();
        cornersInOrder();
        cornerErrors();
        edgesOfRays();
        edgesOfTwoVertices();
        edgesWithoutVertices();
        edgeErrors();
        regions();
        regionErrors();
        lift();
        liftAtTheBounds();
        ways();
        waysThatAreEquallyLong();
        counts();
        countsOfFewTerms();
        shapesFollowChanges();
        check.end("ShapeTest");
    }

    private static void cornersOfOneCell() {
        LeastCurves x = Check.made("0:0,1+2x,1+3y");
        check.row("corner(0, 0, ..)", w -> x.corner(0, 0, w), -1, 2, -1, 3, 6, 3, 1 | 1 << 3 | 1 << 10, OUTSIDE);
        LeastCurves square = Check.made("1:0,x,y,x+y");
        check.row("a cell of four sides", w -> square.corner(1, 0, w), 0, 1, 0, 1, 2, 4, 1 | 2 | 1 << 5 | 1 << 6);
        LeastCurves whole = Check.made("0:0,x,y,2x,x+y,2y,1+x");
        check.row("with all places of the cell", w -> whole.corner(0, 0, w), 0, 1, 0, 1, 4, 3, 0 + 1 + 2 + 4 + 32 + 64 + 1024);
        whole.put(0, 1, 0, 1);
        check.row("not with a hidden term", w -> whole.corner(0, 0, w), 0, 1, 0, 1, 4, 3, 0 + 1 + 2 + 4 + 64 + 1024);
    }

    private static void cornersInOrder() {
        LeastCurves x = Check.made("0:0,x,y,1+x+y");
        check.row("corner 0", w -> x.corner(0, 0, w), -1, 1, -1, 1, 1, 3, 2 | 1 << 5 | 1 << 6);
        check.row("corner 1", w -> x.corner(0, 1, w), 0, 1, 0, 1, 1, 3, 1 | 2 | 1 << 5);
        LeastCurves y = Check.made("0:0,x,y,-1+x+y");
        check.row("same terms, the other way", w -> y.corner(0, 0, w), 0, 1, 1, 1, 1, 3, 1 | 1 << 5 | 1 << 6);
        check.row("same terms, its second", w -> y.corner(0, 1, w), 1, 1, 0, 1, 1, 3, 1 | 2 | 1 << 6);
        LeastCurves z = Check.made("0:0,x,y+1,2+x+y,2y+4,6+x+2y");
        check.row("the first", w -> z.corner(0, 0, w), -2, 1, -4, 1);
        check.row("same x: the lower y comes first", w -> z.corner(0, 1, w), -1, 1, -3, 1);
        check.row("the next", w -> z.corner(0, 2, w), -1, 1, -2, 1);
        check.row("the last", w -> z.corner(0, 3, w), 0, 1, -1, 1);
    }

    private static void cornerErrors() {
        LeastCurves x = Check.made("0:0,x,y");
        check.due("no curve", x.corner(2, 0, 9), UNKNOWN);
        check.due("no curve -1", x.corner(-1, 0, 0), UNKNOWN);
        check.due("no vertex 1", x.corner(0, 1, 9), UNKNOWN);
        check.due("no vertex -1", x.corner(0, -1, 0), UNKNOWN);
        check.due("no vertex MOST", x.corner(0, MOST, 0), UNKNOWN);
        check.due("no vertex LEAST", x.corner(0, LEAST, 0), UNKNOWN);
        check.due("what -1", x.corner(0, 0, -1), OUTSIDE);
        check.due("what 7", x.corner(0, 0, 7), OUTSIDE);
        check.due("no terms", x.corner(1, 0, 0), UNKNOWN);
    }

    private static void edgesOfRays() {
        LeastCurves x = Check.made("0:0,1+2x,1+3y");
        check.row("edge(0, 0, ..)", w -> x.edge(0, 0, w), 0, 3, 3, 0, NONE, 1, 0, NONE, NONE, 0, OUTSIDE);
        check.row("edge(0, 1, ..)", w -> x.edge(0, 1, w), 0, 10, 2, 0, NONE, 0, 1, NONE, NONE, 0);
        check.row("edge(0, 2, ..)", w -> x.edge(0, 2, w), 3, 10, 1, 0, NONE, -3, -2, NONE, NONE, 0);
        LeastCurves y = Check.made("0:0,x,2x,2y");
        check.row("with a place between foot and head", w -> y.edge(0, 1, w), 0, 10, 2, 0, NONE, 0, 1, NONE, NONE, 0);
        LeastCurves z = Check.made("1:x+y,x,y");
        check.row("to the left", w -> z.edge(1, 1, w), 1, 6, 1, 0, NONE, 0, -1);
        check.row("and down", w -> z.edge(1, 2, w), 5, 6, 1, 0, NONE, -1, 0);
        check.row("and up", w -> z.edge(1, 0, w), 1, 5, 1, 0, NONE, 1, 1);
    }

    private static void edgesOfTwoVertices() {
        LeastCurves x = Check.made("0:0,2x,2y,1+2x+2y");
        check.row("edge 0", w -> x.edge(0, 0, w), 0, 2, 2, 1, NONE, 1, 0, NONE, NONE, 0);
        check.row("edge 1", w -> x.edge(0, 1, w), 0, 10, 2, 1, NONE, 0, 1, NONE, NONE, 0);
        check.row("edge 2", w -> x.edge(0, 2, w), 2, 10, 2, 0, 1, 1, 1, 1, 2, 1);
        check.row("edge 3", w -> x.edge(0, 3, w), 2, 12, 2, 0, NONE, 0, -1, NONE, NONE, 0);
        check.row("edge 4", w -> x.edge(0, 4, w), 10, 12, 2, 0, NONE, -1, 0, NONE, NONE, 0);
        check.due("no more", x.edge(0, 5, 0), UNKNOWN);
        LeastCurves y = Check.made("1:0,x,y,-5+x+y");
        check.row("down to the right", w -> y.edge(1, 2, w), 0, 6, 1, 0, 1, 1, -1, 5, 1, 1);
        LeastCurves z = Check.made("0:0,x,4+y,4+x+y");
        check.row("downright edges: x", w -> z.edge(0, 1, w), 0, 5, 1, 0, NONE, 0, 1);
        z.put(0, 1, 1, 6);
        check.row("straight up", w -> z.edge(0, 1, w), 0, 5, 1, 1, NONE, 0, 1);
        z.put(0, 1, 1, 1);
        check.row("askew", w -> z.edge(0, 2, w), 0, 6, 1, 0, 1, 1, -1, 3, 1, 1);
        LeastCurves comb = Check.made(COMB);
        check.row("a side of a hole is no bridge", w -> comb.edge(0, indexOf(comb, 0, 1, 6), w), 1, 6, 1, 6, 7, 0, 1, 1, 1, 0);
        check.row("an edge to a hole is one", w -> comb.edge(0, indexOf(comb, 0, 1, 5), w), 1, 5, 1, 7, 8, 1, 1, 1, 1, 1);
    }

    private static int indexOf(LeastCurves x, int curve, int foot, int head) {
        for (int k = 0; k < x.count(curve, 3); k++) {
            if (x.edge(curve, k, 0) == foot && x.edge(curve, k, 1) == head) {
                return k;
            }
        }
        return -1;
    }

    private static void edgesWithoutVertices() {
        LeastCurves x = Check.made("0:4,2x,5+4x");
        check.row("edge 0", w -> x.edge(0, 0, w), 0, 10, 2, NONE, NONE, 0, 1, NONE, NONE, 0);
        check.row("edge 1", w -> x.edge(0, 1, w), 10, 20, 2, NONE, NONE, 0, 1, NONE, NONE, 0);
        LeastCurves y = Check.made("0:x,1+y");
        check.row("x = y + 1", w -> y.edge(0, 0, w), 1, 5, 1, NONE, NONE, 1, 1);
        LeastCurves z = Check.made("0:3+x+3y,2x+y");
        check.row("a slope", w -> z.edge(0, 0, w), 8, 11, 1, NONE, NONE, 2, 1);
        LeastCurves steep = Check.made("0:0,7+x+2y");
        check.row("a fall", w -> steep.edge(0, 0, w), 0, 7, 1, NONE, NONE, 2, -1);
        LeastCurves flat = Check.made("0:1+3y,1+y,1");
        check.row("y = 0", w -> flat.edge(0, 0, w), 0, 3, 3, NONE, NONE, 1, 0);
        check.due("one edge only", flat.count(0, 3), 1);
        check.due("one term has none", Check.made("0:5+x").count(0, 3), 0);
    }

    private static void edgeErrors() {
        LeastCurves x = Check.made("0:0,x,y");
        check.due("no curve", x.edge(2, 0, 10), UNKNOWN);
        check.due("no curve -1", x.edge(-1, 0, 0), UNKNOWN);
        check.due("no edge 3", x.edge(0, 3, 10), UNKNOWN);
        check.due("no edge -1", x.edge(0, -1, 0), UNKNOWN);
        check.due("no edge MOST", x.edge(0, MOST, 0), UNKNOWN);
        check.due("what -1", x.edge(0, 0, -1), OUTSIDE);
        check.due("what 10", x.edge(0, 0, 10), OUTSIDE);
        check.due("no terms", x.edge(1, 0, 0), UNKNOWN);
    }

    private static void regions() {
        LeastCurves x = Check.made(COMB);
        check.row("the hole", w -> x.region(0, 1, 1, w), 1, 6, 6, 1, OUTSIDE);
        check.row("a corner", w -> x.region(0, 0, 0, w), 2, 2, NONE, NONE, OUTSIDE);
        check.row("a side", w -> x.region(0, 2, 1, w), 2, 4, NONE, NONE, OUTSIDE);
        x.put(0, 1, 1, 4);
        check.row("hidden", w -> x.region(0, 1, 1, w), 0, 0, NONE, NONE, OUTSIDE);
        LeastCurves half = Check.made("0:0,4x,3y,x+y");
        check.row("hidden at its very height", w -> half.region(0, 1, 1, w), 0, 0, NONE, NONE);
        half.put(0, 1, 1, -1);
        check.row("closed, and not of whole length", w -> half.region(0, 1, 1, w), 1, 3, 12, 5);
        LeastCurves alone = Check.made("1:7+x+y");
        check.row("alone", w -> alone.region(1, 1, 1, w), 2, 0, NONE, NONE, OUTSIDE);
        LeastCurves line = Check.made("1:0,2+x,2x");
        check.row("hidden on a line", w -> line.region(1, 1, 0, w), 0, 0, NONE, NONE);
        line.put(1, 1, 0, -2);
        check.row("between two lines", w -> line.region(1, 1, 0, w), 2, 2, NONE, NONE);
    }

    private static void regionErrors() {
        LeastCurves x = Check.made("0:0,x,y");
        check.due("no curve", x.region(2, 9, 9, 9), UNKNOWN);
        check.due("no curve -1", x.region(-1, 0, 0, 0), UNKNOWN);
        check.due("no place", x.region(0, 4, 1, 0), OUTSIDE);
        check.due("no place LEAST", x.region(0, LEAST, LEAST, 0), OUTSIDE);
        check.due("what -1", x.region(0, 0, 0, -1), OUTSIDE);
        check.due("what 4 comes before NOT", x.region(0, 1, 1, 4), OUTSIDE);
        check.due("no term", x.region(0, 1, 1, 2), NOT);
        check.due("no terms", x.region(1, 0, 0, 0), NOT);
    }

    private static void lift() {
        LeastCurves x = Check.made(COMB);
        check.due("within", x.lift(0, 1, 1), 3);
        check.due("on a side", x.lift(0, 1, 0), 1);
        check.due("at a corner", x.lift(0, 0, 0), 999);
        check.due("outside", x.lift(0, 2, 2), 999);
        check.due("on the next line", x.lift(0, 4, 0), 999);
        check.due("nothing is changed", x.tally(5) + x.count(0, 0), 10);
        x = Check.made("0:0,1+3x");
        check.due("below 1 / 3", x.lift(0, 1, 0), 0);
        check.due("below 2 / 3", x.lift(0, 2, 0), 0);
        x.put(0, 3, 0, -1);
        check.due("below -1 / 3", x.lift(0, 1, 0), -1);
        check.due("below -2 / 3", x.lift(0, 2, 0), -1);
        x.put(0, 3, 0, 3);
        check.due("below 1", x.lift(0, 1, 0), 0);
        check.due("beside the line", x.lift(0, 1, 1), 999);
        x = Check.made("0:-7,2+3x,1+3y");
        check.due("below -4 / 3", x.lift(0, 1, 1), -2);
        x.put(0, 1, 1, -2);
        check.due("the term there does not count", x.lift(0, 1, 1), -2);
        check.due("it is not hidden", x.region(0, 1, 1, 0), 1);
        x.put(0, 1, 1, -1);
        check.due("one more hides it", x.region(0, 1, 1, 0), 0);
        check.due("below 5 / 3, the second and third next to each other", Check.made("0:3+2y,1+3x,1+3x+y").lift(0, 2, 1), 1);
        check.due("below 17 / 4", Check.made("0:6,4+x+3y,1+3x+y").lift(0, 1, 1), 4);
        check.due("below 7 / 2", Check.made("0:4,5+x+2y,2+2x+y,9+x").lift(0, 1, 1), 3);
        check.due("of a segment and a triangle the lower", Check.made("0:-9,6+3x,3y,-8+2x+2y").lift(0, 1, 1), -9);
        check.due("no other term", Check.made("0:5+x").lift(0, 1, 0), 999);
    }

    private static void liftAtTheBounds() {
        LeastCurves x = Check.made("0:-999,-999+2x");
        check.due("none is low enough", x.lift(0, 1, 0), NONE);
        x.put(0, 2, 0, -998);
        check.due("the lowest is", x.lift(0, 1, 0), -999);
        x = Check.made("0:999,999+2x");
        check.due("999 would be hidden", x.lift(0, 1, 0), 998);
        check.due("no terms", x.lift(1, 2, 2), 999);
        check.due("no curve", x.lift(2, 9, 9), UNKNOWN);
        check.due("no curve -1", x.lift(-1, 0, 0), UNKNOWN);
        check.due("no place", x.lift(0, 3, 2), OUTSIDE);
        check.due("no place -1", x.lift(0, -1, 2), OUTSIDE);
        check.due("no place MOST", x.lift(0, MOST, MOST), OUTSIDE);
    }

    private static void ways() {
        LeastCurves x = Check.made(COMB);
        check.row("to itself", w -> x.way(0, 4, 4, w), 0, 1, 0, OUTSIDE);
        check.row("the whole comb", w -> x.way(0, 0, 8, w), 4, 1, 4, OUTSIDE);
        check.row("and back", w -> x.way(0, 8, 0, w), 4, 1, 4);
        LeastCurves half = Check.made("0:0,2x,2y,1+2x+2y");
        check.row("a half", w -> half.way(0, 1, 0, w), 1, 2, 1);
        check.due("no curve", x.way(2, 0, 0, 9), UNKNOWN);
        check.due("no curve -1", x.way(-1, 0, 0, 0), UNKNOWN);
        check.due("no vertex from", x.way(0, 9, 0, 9), UNKNOWN);
        check.due("no vertex from -1", x.way(0, -1, 0, 0), UNKNOWN);
        check.due("no vertex to", x.way(0, 0, 9, 9), UNKNOWN);
        check.due("no vertex to -1", x.way(0, 0, -1, 0), UNKNOWN);
        check.due("no vertex to MOST", x.way(0, 0, MOST, 0), UNKNOWN);
        check.due("what -1", x.way(0, 0, 0, -1), OUTSIDE);
        check.due("what 3", x.way(0, 0, 0, 3), OUTSIDE);
        LeastCurves first = Check.made("0:y,-1+x+y,2x,1+2x+2y");
        check.row("the first edge is bounded", w -> first.edge(0, 0, w), 1, 6, 1, 1, 2, 0, 1, 5, 1, 0);
        check.row("it counts for the region", w -> first.region(0, 1, 1, w), 1, 3, 10, 1);
        check.row("and for ways: both ways are 5 long", w -> first.way(0, 1, 2, w), 5, 1, 1);
        check.due("and against bridges", first.count(0, 7), 0);
        check.due("no terms", x.way(1, 0, 0, 0), UNKNOWN);
    }

    /** Round a hole both ways can be equally long, also with more vertices on the one. */
    private static void waysThatAreEquallyLong() {
        LeastCurves x = Check.made("0:0,2x,2y,2x+2y,-1+x+y");
        check.row("a square's side", w -> x.way(0, 0, 1, w), 1, 1, 1);
        check.row("across the square", w -> x.way(0, 0, 3, w), 2, 1, 2);
        LeastCurves y = Check.made("0:-1+x,-2+2x+y,4+4x,x+2y,1+3x,3+y");
        check.row("one edge, not three", w -> y.way(0, 0, 3, w), 19, 2, 1);
        check.row("and back", w -> y.way(0, 3, 0, w), 19, 2, 1);
        LeastCurves z = Check.made("0:4+4x,1+2x+y,3y,2+2y,x+y,2+2x+2y,3+x+3y,-2+y");
        check.row("two edges, not three", w -> z.way(0, 0, 3, w), 5, 2, 2);
        check.row("and back", w -> z.way(0, 3, 0, w), 5, 2, 2);
    }

    private static long[] counts(LeastCurves x, int curve) {
        long[] counts = new long[12];
        for (int what = 0; what < 12; what++) {
            counts[what] = x.count(curve, what);
        }
        return counts;
    }

    private static void counts() {
        LeastCurves x = Check.made(COMB);
        check.row("the comb", w -> x.count(0, w), 10, 10, 9, 18, 9, 9, 1, 3, 9, 1, 1, 3, OUTSIDE);
        check.row("no terms", w -> x.count(1, w), 0, 0, 0, 0, 0, 0, 0, 0, 0, 0, 0, NONE, OUTSIDE);
        LeastCurves y = Check.made("1:0,1+2x,1+3y,900+x+y");
        check.row("one vertex", w -> y.count(1, w), 4, 3, 1, 3, 0, 3, 0, 0, 6, 0, 3, 3);
        LeastCurves z = Check.made("1:0,2x,2y,1+2x+2y");
        check.row("two vertices", w -> z.count(1, w), 4, 4, 2, 5, 1, 4, 0, 1, 8, 0, 2, 4);
        check.due("no curve", x.count(2, 12), UNKNOWN);
        check.due("no curve -1", x.count(-1, 0), UNKNOWN);
        check.due("what -1", x.count(0, -1), OUTSIDE);
        check.due("what 12", x.count(0, 12), OUTSIDE);
        LeastCurves full = new LeastCurves();
        for (int k = 0; k < 21; k++) {
            int i = k / 5;
            int j = k % 5;
            full.put(0, i, j, i * i + i * j + j * j);
        }
        check.row("all 15 places", w -> full.count(0, w), 15, 15, 16, 30, 18, 12, 3, 3, 16, 1, 1, 4);
    }

    private static void countsOfFewTerms() {
        LeastCurves x = Check.made("0:4,2x,5+4x");
        check.row("two lines", w -> x.count(0, w), 3, 3, 0, 2, 0, 0, 0, 0, 0, 0, 2, 4);
        LeastCurves y = Check.made("0:8+3y");
        check.row("one term", w -> y.count(0, w), 1, 1, 0, 0, 0, 0, 0, 0, 0, 0, 0, 3);
        LeastCurves z = Check.made("0:8");
        check.row("a number", w -> z.count(0, w), 1, 1, 0, 0, 0, 0, 0, 0, 0, 0, 0, 0);
        LeastCurves hidden = Check.made("0:0,0+x,2x,9+3x,999+x+y,0+4x");
        check.due("a hidden term beside a line is none", hidden.count(0, 1), 3);
        check.due("smooth needs all cells", Check.made("0:0,x,y,1+2x+y").count(0, 9), 0);
    }

    private static void shapesFollowChanges() {
        LeastCurves x = Check.made("0:0,x,y");
        check.due("at first", x.corner(0, 0, 0), 0);
        x.move(0, 3, 4);
        check.row("moved", w -> x.corner(0, 0, w), 3, 1, 4, 1);
        x.mirror(0);
        check.row("mirrored", w -> x.corner(0, 0, w), 4, 1, 3, 1);
        x.undo();
        check.row("undone", w -> x.corner(0, 0, w), 3, 1, 4, 1);
        x.keep(0);
        x.put(0, 0, 0, 9);
        check.due("put", x.count(0, 2), 1);
        check.row("put", w -> x.corner(0, 0, w), 12, 1, 13, 1);
        x.drop(0, 0, 0);
        check.due("dropped", x.count(0, 2), 0);
        x.back(0);
        check.row("back", w -> x.corner(0, 0, w), 3, 1, 4, 1);
        x.join(1);
        check.row("joined", w -> x.corner(1, 0, w), 3, 1, 4, 1);
        x.times(1);
        check.due("multiplied", x.corner(1, 0, 4), 4);
        Check.write(x, "1:0,x,1+y").curves();
        check.row("read", w -> x.corner(1, 0, w), 0, 1, -1, 1);
        check.row("the other stays", w -> x.corner(0, 0, w), 3, 1, 4, 1);
    }
}

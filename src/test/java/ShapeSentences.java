/** Section 3 of the document: vertices, edges, regions, holes, ways and bridges. */
final class ShapeSentences {
    private static final int NONE = Sentences.NONE, UNKNOWN = Sentences.UNKNOWN;
    private static final String SHAPES = Sentences.SHAPES;

    /** One vertex at (0, 0). */
    static final String LINE = "0:0,x,y";
    /** A hole: the vertices (-1, -1), (0, 1) and (1, 0), each side 1 long. */
    static final String HOLE = "0:0,3x,3y,-1+x+y";
    /** The vertices (-1 / 2, -1 / 2) and (0, 0), and an edge between them. */
    static final String HALF = "0:0,2x,2y,1+2x+2y";

    private final Sentences s;

    ShapeSentences(Sentences s) {
        this.s = s;
    }

    void all() {
        areas();
        vertices();
        numbersOfVertices();
        edges();
        footAndHead();
        numbersOfEdges();
        weights();
        ends();
        directions();
        directionsWithoutStart();
        lengths();
        regions();
        sides();
        closedAndOpen();
        perimetersAndHoles();
        ways();
        bridges();
    }

    private void areas() {
        s.test(SHAPES, 17, "The hull of a set of places is the smallest convex figure that contains all of them.", () -> {
            s.due("a triangle", Check.made("0:0,2x,2y").corner(0, 0, 4), 4);
            s.due("a place on its side adds nothing", Check.made("0:0,2x,2y,x").corner(0, 0, 4), 4);
            s.due("a place within adds nothing", Check.made("0:0,3x,3y,x+y").corner(0, 0, 4), 9);
            s.due("a place outside does", Check.made("0:0,2x,2y,2x+2y").corner(0, 0, 4), 8);
        });
        s.test(SHAPES, 17, "The area of a set of places means twice the area of its hull in the usual sense", () -> {
            s.due("the least of a vertex", Check.made(LINE).corner(0, 0, 4), 1);
            s.due("a square of 1", Check.made("0:0,x,y,x+y").corner(0, 0, 4), 2);
            s.due("the greatest", Check.made("0:0,4x,4y").corner(0, 0, 4), 16);
            s.due("a slender triangle", Check.made("0:0,2x+y,3x+y").corner(0, 0, 4), 1);
        });
        s.test(SHAPES, 24, "(so it is an integer, and 0 if all places are on one line)", () -> {
            s.due("two sets on lines that are not parallel", Check.made("0:0,x,2x;1:0,y,2y").tally(2), 4);
            s.due("twice the same set on a line", Check.made("0:0,x,2x;1:0,x,2x").tally(2), 0);
            s.due("with a place beside the line", Check.made("0:0,x,2x;1:0,x,2x,y").tally(2), 2);
        });
        s.test(SHAPES, 17, "The cell of a vertex is the hull of its leading set.", () -> {
            s.row("three places", w -> Check.made("0:0,3x,3y,1+x+y").corner(0, 0, w + 4), 9, 3, 1 | 1 << 3 | 1 << 15);
            s.row("four, the one within", w -> Check.made("0:0,3x,3y,x+y").corner(0, 0, w + 4), 9, 3, 1 | 1 << 3 | 1 << 6 | 1 << 15);
            s.row("three of them, the one at a corner", w -> Check.made(HOLE).corner(0, 2, w + 4), 3, 3, 1 | 1 << 3 | 1 << 6);
        });
    }

    private void vertices() {
        s.test(SHAPES, 23, "A vertex of a curve is a point whose leading set has three places that are not on one line.", () -> {
            s.due("two terms", Check.made("0:0,x").count(0, 2), 0);
            s.due("three places on one line", Check.made("0:0,x,2x").count(0, 2), 0);
            s.due("three places on another line", Check.made("0:2x,x+y,2y").count(0, 2), 0);
            s.due("four places on one line", Check.made("0:1+3x,1+2x+y,1+x+2y,1+3y").count(0, 2), 0);
            s.due("three places not on one line", Check.made(LINE).count(0, 2), 1);
            s.due("three of four on one line", Check.made("0:0,x,2x,y").count(0, 2), 1);
            s.due("three places that are never least together", Check.made("0:0,5+x,2x,y").count(0, 2), 1);
            s.due("four places at one point", Check.made("0:0,x,y,x+y").count(0, 2), 1);
            s.due("the fourth a little higher", Check.made("0:0,x,y,1+x+y").count(0, 2), 2);
            s.due("the fourth a little lower", Check.made("0:0,x,y,-1+x+y").count(0, 2), 2);
            s.due("no terms", new LeastCurves().count(0, 2), 0);
        });
    }

    private void numbersOfVertices() {
        s.test(SHAPES, 17, "Vertices are numbered from 0 by ascending x, and for the same x by ascending y.", () -> {
            LeastCurves x = Check.made("0:0,x,y,1+x+y");
            s.row("-1 before 0: the first", w -> x.corner(0, 0, w), -1, 1, -1, 1);
            s.row("the second", w -> x.corner(0, 1, w), 0, 1, 0, 1);
            s.due("no third", x.corner(0, 2, 0), UNKNOWN);
            LeastCurves y = Check.made("0:0,x,y,-1+x+y");
            s.row("x counts before y: the first", w -> y.corner(0, 0, w), 0, 1, 1, 1);
            s.row("the second", w -> y.corner(0, 1, w), 1, 1, 0, 1);
            LeastCurves sameX = Check.made("0:0,y,1+2y,x,x+y,1+x+2y");
            s.row("the same x: the lower y", w -> sameX.corner(0, 0, w), 0, 1, -1, 1);
            s.row("the higher y", w -> sameX.corner(0, 1, w), 0, 1, 0, 1);
            LeastCurves fractions = Check.made("0:0,3+2x,5+3x,y,3+2x+y,5+3x+y");
            s.row("-2 before -3 / 2", w -> fractions.corner(0, 0, w), -2, 1, 0, 1);
            s.row("-3 / 2", w -> fractions.corner(0, 1, w), -3, 2, 0, 1);
            fractions.mirror(0);
            s.row("the same x: -2 before -3 / 2", w -> fractions.corner(0, 0, w), 0, 1, -2, 1);
            s.row("the same x: -3 / 2", w -> fractions.corner(0, 1, w), 0, 1, -3, 2);
            LeastCurves hole = Check.made(HOLE);
            s.row("the first of three", w -> hole.corner(0, 0, w), -1, 1, -1, 1);
            s.row("the second of three", w -> hole.corner(0, 1, w), 0, 1, 1, 1);
            s.row("the third of three", w -> hole.corner(0, 2, w), 1, 1, 0, 1);
        });
    }

    private void edges() {
        s.test(SHAPES, 23, "An edge consists of all points that have the same leading set, if this set has at least two places "
            + "and all of them are on one line.", () -> {
            s.due("one place", Check.made("0:7").count(0, 3), 0);
            s.due("two places", Check.made("0:7,x").count(0, 3), 1);
            s.due("three places on one line, all at once", Check.made("0:0,x,2x").count(0, 3), 1);
            s.due("the middle one lower", Check.made("0:0,-1+x,2x").count(0, 3), 2);
            s.due("the middle one higher", Check.made("0:0,1+x,2x").count(0, 3), 1);
            s.due("three places at a vertex", Check.made(LINE).count(0, 3), 3);
            s.due("a square", Check.made("0:0,x,y,x+y").count(0, 3), 4);
            s.due("its diagonal is no edge", Check.made("0:0,x,y,x+y").edge(0, 4, 0), UNKNOWN);
            s.due("a split square", Check.made("0:0,x,y,1+x+y").count(0, 3), 5);
            s.due("no terms", new LeastCurves().count(0, 3), 0);
        });
    }

    private void footAndHead() {
        s.test(SHAPES, 18, "Its foot and its head are the smallest and the greatest number of these places.", () -> {
            s.row("of two places", w -> Check.made("0:x,4y").edge(0, 0, w), 4, 5);
            s.row("of three", w -> Check.made("0:x,0,2x").edge(0, 0, w), 0, 10);
            s.row("of five", w -> Check.made("0:4x,3x+y,2x+2y,x+3y,4y").edge(0, 0, w), 4, 20);
            s.row("the middle one higher", w -> Check.made("0:0,1+x,2x").edge(0, 0, w), 0, 10);
            s.row("the middle one lower: the first", w -> Check.made("0:0,-1+x,2x").edge(0, 0, w), 0, 5);
            s.row("the middle one lower: the second", w -> Check.made("0:0,-1+x,2x").edge(0, 1, w), 5, 10);
            s.row("on a ray", w -> Check.made("0:0,2x,2y,x").edge(0, 1, w), 0, 10);
            s.row("on a bounded edge", w -> Check.made("0:0,2x,2y,1+2x+2y,x+y").edge(0, 2, w), 2, 10);
        });
    }

    private void numbersOfEdges() {
        s.test(SHAPES, 18, "Edges are numbered from 0 by ascending foot, and for the same foot by ascending head.", () -> {
            int[][] feetAndHeads = {{0, 3}, {0, 6}, {0, 15}, {3, 6}, {3, 15}, {6, 15}};
            LeastCurves x = Check.made(HOLE);
            for (int edge = 0; edge < feetAndHeads.length; edge++) {
                s.due("the foot of edge " + edge, x.edge(0, edge, 0), feetAndHeads[edge][0]);
                s.due("the head of edge " + edge, x.edge(0, edge, 1), feetAndHeads[edge][1]);
            }
            s.due("no edge 6", x.edge(0, 6, 0), UNKNOWN);
            s.due("no edge -1", x.edge(0, -1, 0), UNKNOWN);
            LeastCurves lines = Check.made("0:0,-1+x,2x");
            s.due("without vertices: edge 0", lines.edge(0, 0, 0), 0);
            s.due("without vertices: edge 1", lines.edge(0, 1, 0), 5);
        });
    }

    private void weights() {
        s.test(SHAPES, 18, "The weight of an edge is the greatest common divisor of the differences of i and of j between head and foot.", () -> {
            s.due("1 and 0", Check.made("0:0,x").edge(0, 0, 2), 1);
            s.due("4 and 0", Check.made("0:0,4x").edge(0, 0, 2), 4);
            s.due("0 and 3", Check.made("0:x,x+3y").edge(0, 0, 2), 3);
            s.due("2 and -2", Check.made("0:2x,2y").edge(0, 0, 2), 2);
            s.due("4 and -4", Check.made("0:4x,4y").edge(0, 0, 2), 4);
            s.due("4 and -2", Check.made("0:2y,4x").edge(0, 0, 2), 2);
            s.due("3 and -2", Check.made("0:2y,3x").edge(0, 0, 2), 1);
            s.due("3 and 1", Check.made("0:0,3x+y").edge(0, 0, 2), 1);
            s.due("with a place between head and foot", Check.made("0:0,x,2x").edge(0, 0, 2), 2);
        });
    }

    private void ends() {
        s.test(SHAPES, 18, "An edge ends at two vertices (then it is bounded; its start is the one with the smaller number, "
            + "its end the other one), at one (its start), or at none.", () -> {
            s.row("two", w -> Check.made(HALF).edge(0, 2, w + 3), 0, 1);
            s.row("two of three: 1 and 2", w -> Check.made(HOLE).edge(0, 1, w + 3), 1, 2);
            s.row("two of three: 0 and 2", w -> Check.made(HOLE).edge(0, 3, w + 3), 0, 2);
            s.row("two of three: 0 and 1", w -> Check.made(HOLE).edge(0, 5, w + 3), 0, 1);
            s.row("one", w -> Check.made(LINE).edge(0, 2, w + 3), 0, NONE);
            s.row("one of two: 1", w -> Check.made(HALF).edge(0, 0, w + 3), 1, NONE);
            s.row("one of two: 0", w -> Check.made(HALF).edge(0, 3, w + 3), 0, NONE);
            s.row("none", w -> Check.made("0:0,x").edge(0, 0, w + 3), NONE, NONE);
        });
    }

    private void directions() {
        s.test(SHAPES, 18, "Its direction (u, v) consists of two integers without a common divisor above 1;", () -> {
            s.row("of weight 4", w -> Check.made("0:0,4x").edge(0, 0, w + 5), 0, 1);
            s.row("2 and -4 apart", w -> Check.made("0:4y,2x").edge(0, 0, w + 5), 2, 1);
            s.row("1 and -4 apart", w -> Check.made("0:4y,x").edge(0, 0, w + 5), 4, 1);
            s.row("3 and -2 apart", w -> Check.made("0:2y,3x").edge(0, 0, w + 5), 2, 3);
            s.row("twice as long as its direction", w -> Check.made("0:0,3x,3y,-2+x+y").edge(0, 3, w + 5), 2, 1, 2, 1);
        });
        s.test(SHAPES, 18, "the edge goes from its start by this direction;", () -> {
            s.row("right", w -> Check.made(LINE).edge(0, 0, w + 5), 1, 0);
            s.row("up", w -> Check.made(LINE).edge(0, 1, w + 5), 0, 1);
            s.row("left and down", w -> Check.made(LINE).edge(0, 2, w + 5), -1, -1);
            s.row("right and up", w -> Check.made("0:x+y,x,y").edge(0, 0, w + 5), 1, 1);
            s.row("down", w -> Check.made("0:x+y,x,y").edge(0, 1, w + 5), 0, -1);
            s.row("left", w -> Check.made("0:x+y,x,y").edge(0, 2, w + 5), -1, 0);
            s.row("bounded, right and down", w -> Check.made(HOLE).edge(0, 1, w + 5), 1, -1);
            s.row("bounded, right and up", w -> Check.made(HOLE).edge(0, 5, w + 5), 1, 2);
            s.row("bounded, straight up", w -> Check.made("0:0,y,1+2y,x,x+y,1+x+2y").edge(0, 3, w + 3), 0, 1, 0, 1);
        });
    }

    private void directionsWithoutStart() {
        s.test(SHAPES, 18, "if it has no start, it is parallel to it, and u is above 0, or u is 0 and v is above 0.", () -> {
            s.row("y = 0", w -> Check.made("0:0,y").edge(0, 0, w + 5), 1, 0);
            s.row("x = 0", w -> Check.made("0:0,x").edge(0, 0, w + 5), 0, 1);
            s.row("x = y", w -> Check.made("0:x,y").edge(0, 0, w + 5), 1, 1);
            s.row("x = -y", w -> Check.made("0:0,x+y").edge(0, 0, w + 5), 1, -1);
            s.row("x = -2 y", w -> Check.made("0:0,x+2y").edge(0, 0, w + 5), 2, -1);
            s.row("2 x = -y", w -> Check.made("0:0,2x+y").edge(0, 0, w + 5), 1, -2);
            s.row("2 x = 3 y", w -> Check.made("0:2x,3y").edge(0, 0, w + 5), 3, 2);
            s.row("with a start u can be below 0", w -> Check.made(LINE).edge(0, 2, w + 5), -1, -1);
            s.row("with a start v can be below 0, and u be 0", w -> Check.made("0:x+y,x,y").edge(0, 1, w + 5), 0, -1);
        });
    }

    private void lengths() {
        s.test(SHAPES, 18, "The length of a bounded edge is how many times its direction, as a vector, fits from the start to the end (a fraction).", () -> {
            s.row("less than once", w -> Check.made(HALF).edge(0, 2, w + 5), 1, 1, 1, 2);
            s.row("once", w -> Check.made("0:0,x,y,1+x+y").edge(0, 2, w + 5), 1, 1, 1, 1);
            s.row("once and a half", w -> Check.made("0:0,2x,2y,3+2x+2y").edge(0, 2, w + 5), 1, 1, 3, 2);
            s.row("by (1, -1)", w -> Check.made("0:0,x,y,-7+x+y").edge(0, 2, w + 5), 1, -1, 7, 1);
            s.row("by (2, 1)", w -> Check.made(HOLE).edge(0, 3, w + 5), 2, 1, 1, 1);
            s.row("by (0, 1)", w -> Check.made("0:0,y,3+2y,x,x+y,3+x+2y").edge(0, 3, w + 5), 0, 1, 3, 1);
            s.row("by (1, 0)", w -> Check.made("0:0,x,3+2x,y,x+y,3+2x+y").edge(0, 3, w + 5), 1, 0, 3, 1);
            s.row("from (-3 / 2, -1) to (-1 / 2, -1 / 3) by (3, 2)", w -> Check.made("0:0,1+2x,1+3y,3+2x+2y").edge(0, 2, w + 3), 0, 1, 3, 2, 1, 3);
            s.row("from (-1 / 2, -3) to (-1 / 2, 0) by (0, 1)", w -> Check.made("0:0,1+2x,y,1+2x+y,3+2y,4+2x+2y").edge(0, 3, w + 3), 0, 1, 0, 1, 3, 1);
            s.row("of edge 0", w -> Check.made("0:y,-1+x+y,2x,1+2x+2y").edge(0, 0, w + 3), 1, 2, 0, 1, 5, 1);
            s.row("far", w -> Check.made("0:-999,999+x,999+y,-999+x+y").edge(0, 2, w + 5), 1, -1, 3996, 1);
        });
    }

    private void regions() {
        s.test(SHAPES, 19, "The region of a term consists of all points whose leading set is its place alone. The term is hidden if there are none.", () -> {
            s.due("least with others at once, on a line", Check.made("0:0,x,2x").region(0, 1, 0, 0), 0);
            s.due("one lower", Check.made("0:0,-1+x,2x").region(0, 1, 0, 0), 2);
            s.due("never least", Check.made("0:0,1+x,2x").region(0, 1, 0, 0), 0);
            s.due("least with others at once, at a point", Check.made("0:0,3x,3y,x+y").region(0, 1, 1, 0), 0);
            s.due("one lower", Check.made(HOLE).region(0, 1, 1, 0), 1);
            s.due("one higher", Check.made("0:0,3x,3y,1+x+y").region(0, 1, 1, 0), 0);
            s.due("as high as others at a corner of the hull", Check.made("0:0,x,y,x+y").region(0, 1, 1, 0), 2);
            s.due("high above at a corner of the hull", Check.made("0:-999,-999+x,-999+y,999+x+y").region(0, 1, 1, 0), 2);
            s.due("alone", Check.made("0:999+2x").region(0, 2, 0, 0), 2);
        });
    }

    private void sides() {
        s.test(SHAPES, 19, "The sides of a term are the edges whose foot or head is its place.", () -> {
            LeastCurves x = Check.made("0:0,x,2x");
            s.due("the foot of one", x.region(0, 0, 0, 1), 1);
            s.due("between foot and head", x.region(0, 1, 0, 1), 0);
            s.due("the head of one", x.region(0, 2, 0, 1), 1);
            s.due("the head of one and the foot of one", Check.made("0:0,-1+x,2x").region(0, 1, 0, 1), 2);
            s.due("alone", Check.made("0:5").region(0, 0, 0, 1), 0);
            s.due("at a vertex only", Check.made("0:0,3x,3y,x+y").region(0, 1, 1, 1), 0);
            s.due("round a hole", Check.made(HOLE).region(0, 1, 1, 1), 3);
            s.due("beside a hole", Check.made(HOLE).region(0, 0, 0, 1), 3);
            s.due("opposite in a square", Check.made("0:0,x,y,x+y").region(0, 1, 1, 1), 2);
        });
    }

    private void closedAndOpen() {
        s.test(SHAPES, 19, "Its region is closed if it has sides and all of them are bounded;", () -> {
            s.due("three bounded sides", Check.made(HOLE).region(0, 1, 1, 0), 1);
            s.due("one bounded side and two rays", Check.made(HOLE).region(0, 0, 0, 0), 2);
            s.due("two rays", Check.made(LINE).region(0, 0, 0, 0), 2);
            s.due("two lines", Check.made("0:0,-1+x,2x").region(0, 1, 0, 0), 2);
            s.due("no sides", Check.made("0:0").region(0, 0, 0, 0), 2);
            s.due("no sides, and hidden", Check.made("0:0,x,2x").region(0, 1, 0, 0), 0);
        });
        s.test(SHAPES, 19, "a term that is neither hidden nor has a closed region has an open region.", () -> {
            LeastCurves x = Check.made("0:0,3x,3y,-1+x+y,x,-9+4x");
            s.due("hidden", x.region(0, 1, 0, 0), 0);
            s.due("closed", Check.made(HOLE).region(0, 1, 1, 0), 1);
            s.due("neither", x.region(0, 4, 0, 0), 2);
            s.due("all that is there", Check.made("1:3+x+y").region(1, 1, 1, 0), 2);
            s.due("beside one line", Check.made("1:3,x").region(1, 1, 0, 0), 2);
        });
    }

    private void perimetersAndHoles() {
        s.test(SHAPES, 19, "The perimeter of a closed region is the sum of the lengths of its sides.", () -> {
            s.row("1 and 1 and 1", w -> Check.made(HOLE).region(0, 1, 1, w + 2), 3, 1);
            s.row("2 and 2 and 2", w -> Check.made("0:0,3x,3y,-2+x+y").region(0, 1, 1, w + 2), 6, 1);
            s.row("with fractions", w -> Check.made("0:0,4x,3y,-1+x+y").region(0, 1, 1, w + 2), 12, 5);
            s.row("as long as can be", w -> Check.made("0:999,999+3x,999+3y,-999+x+y").region(0, 1, 1, w + 2), 5994, 1);
            s.row("with edge 0", w -> Check.made("0:y,-1+x+y,2x,1+2x+2y").region(0, 1, 1, w + 2), 10, 1);
            s.row("an open one has none", w -> Check.made(HOLE).region(0, 0, 0, w + 2), NONE, NONE);
        });
        s.test(SHAPES, 23, "A hole is a closed region.", () -> {
            s.due("none: the term is hidden", Check.made("0:0,3x,3y,x+y").count(0, 6), 0);
            s.due("one lower", Check.made(HOLE).count(0, 6), 1);
            s.due("none: all are open", Check.made(LINE).count(0, 6), 0);
            s.due("none: it is alone", Check.made("0:x+y").count(0, 6), 0);
            s.due("two", Check.made("0:0,4x,4y,-9+x+y,-9+2x+y").count(0, 6), 2);
            s.due("three, the most", Check.made("0:0,4x,4y,-9+x+y,-9+2x+y,-9+x+2y").count(0, 6), 3);
        });
    }

    private void ways() {
        s.test(SHAPES, 21, "A way between two vertices consists of bounded edges one after another;", () -> {
            LeastCurves three = Check.made("0:0,x,3+2x,y,x+y,4+2x+y");
            s.due("vertices", three.count(0, 2), 3);
            s.row("from (-4, -1) to (-3, 0)", w -> three.way(0, 0, 1, w), 1, 1, 1);
            s.row("from (-3, 0) to (0, 0)", w -> three.way(0, 1, 2, w), 3, 1, 1);
            s.row("over both edges", w -> three.way(0, 0, 2, w), 4, 1, 2);
            s.row("and back", w -> three.way(0, 2, 0, w), 4, 1, 2);
        });
        s.test(SHAPES, 21, "the shortest one has the smallest sum of lengths (0 from a vertex to itself).", () -> {
            LeastCurves hole = Check.made(HOLE);
            for (int from = 0; from < 3; from++) {
                for (int to = 0; to < 3; to++) {
                    int a = from;
                    int b = to;
                    s.row("from " + from + " to " + to, w -> hole.way(0, a, b, w), a == b ? 0 : 1, 1, a == b ? 0 : 1);
                }
            }
        });
    }

    private void bridges() {
        s.test(SHAPES, 18, "A bridge is a bounded edge without which there would be no way between its start and its end.", () -> {
            s.due("the only edge", Check.made(HALF).edge(0, 2, 9), 1);
            s.due("a ray", Check.made(HALF).edge(0, 0, 9), 0);
            s.due("an edge without ends", Check.made("0:0,x").edge(0, 0, 9), 0);
            for (int edge = 0; edge < 6; edge++) {
                s.due("edge " + edge + " of a hole with rays", Check.made(HOLE).edge(0, edge, 9), 0);
            }
            LeastCurves first = Check.made("0:y,-1+x+y,2x,1+2x+2y");
            s.due("round a hole with edge 0 there is a way without each side", first.count(0, 7), 0);
            s.row("and one of the two ways is edge 0", w -> first.way(0, 1, 2, w), 5, 1, 1);
            s.due("bridges beside no hole", Check.made("0:0,x,3+2x,y,x+y,4+2x+y").count(0, 7), 2);
        });
    }
}

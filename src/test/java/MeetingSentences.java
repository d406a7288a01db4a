/** Section 4 of the document, and promises 22 and 24: intersections, and what is told of both curves. */
final class MeetingSentences {
    private static final int UNKNOWN = Sentences.UNKNOWN, OUTSIDE = Sentences.OUTSIDE;
    private static final String MEETINGS = Sentences.MEETINGS;

    private final Sentences s;

    MeetingSentences(Sentences s) {
        this.s = s;
    }

    void all() {
        mixedAreas();
        intersections();
        numbersOfIntersections();
        simpleOnes();
        promise22Meeting();
        promise22MeetingErrors();
        promise24Meetings();
        promise24SameEdges();
        promise24Others();
    }

    private void told(String text, int what, long want) {
        s.due("of " + text, Check.made(text).tally(what), want);
    }

    /** Four by four lines: as many intersections as can be. */
    private static LeastCurves grid() {
        LeastCurves x = new LeastCurves();
        for (int k = 0; k <= 4; k++) {
            x.put(0, k, 0, 10 * k * k);
            x.put(1, 0, k, 10 * k * k);
        }
        return x;
    }

    private void mixedAreas() {
        s.test(MEETINGS, 24, "The mixed area of two sets of places is half of this: the area of the set of all sums of a place "
            + "of the one and a place of the other set (the sums of their i and of their j), minus the areas of both sets.", () -> {
            told("0:0,x,y;1:0,x,y", 2, 1);
            told("0:0,x;1:0,y", 2, 1);
            told("0:0,x;1:0,2x", 2, 0);
            told("0:0,x+y;1:0,2x+2y", 2, 0);
            told("0:0,x+y;1:0,2x+y", 2, 1);
            told("0:0;1:0,4x,4y", 2, 0);
            told("0:0,x,y;1:0,4x,4y", 2, 4);
            told("0:0,x+y;1:0,4x,4y", 2, 8);
            told("0:0,x,y;1:x+y,x,y", 2, 2);
            told("0:0,4x,4y;1:0,4x,4y", 2, 16);
            told("0:0,4x;1:0,4y", 2, 16);
            told("0:3x,3x+y;1:4y,3y", 2, 0);
        });
    }

    private void intersections() {
        s.test(MEETINGS, 24, "An intersection of the two curves is a point for which the mixed area of its leading set for curve 0 "
            + "and its leading set for curve 1 is greater than 0;", () -> {
            told("0:0,x;1:0,y", 0, 1);
            told("0:0,x;1:0,x", 0, 0);
            told("0:0,x;1:1,x", 0, 0);
            told("0:0,x,2x;1:1,x", 0, 0);
            told("0:0,x,y;1:0,x,y", 0, 1);
            told("0:0,x,y;1:5,x,5+y", 0, 1);
            told("0:0,x,y;1:0,x", 0, 1);
            told("0:0,x,y;1:x,1+y", 0, 1);
            told("0:0,x,y;1:x,y", 0, 1);
            told("0:0,x,y,-2+x+y;1:1,x,-1+y", 0, 1);
            told("0:0,x,y,-2+x+y;1:2,x+y", 0, 2);
            told("0:0,x,y;1:5", 0, 0);
        });
        s.test(MEETINGS, 22, "this number is its multiplicity.", () -> {
            s.due("two lines", Check.made("0:0,x;1:0,y").meeting(0, 4), 1);
            s.due("of weight 2 and 3", Check.made("0:0,2x;1:0,3y").meeting(0, 4), 6);
            s.due("the greatest", Check.made("0:0,4x;1:0,4y").meeting(0, 4), 16);
            s.due("the greatest of vertices", Check.made("0:0,4x,4y;1:0,4x,4y").meeting(0, 4), 16);
            s.due("askew", Check.made("0:0,3x+y;1:5+2x,3y").meeting(0, 4), 11);
            s.due("a vertex on a ray", Check.made("0:0,x,y;1:5,x,5+y").meeting(0, 4), 1);
            s.due("a vertex on a line", Check.made("0:0,2x,y;1:0,x").meeting(0, 4), 1);
            s.due("a vertex on a line that crosses it", Check.made("0:0,2x,y;1:0,y").meeting(0, 4), 2);
        });
        s.test(MEETINGS, 22, "If a curve has no terms, there are none.", () -> {
            LeastCurves x = Check.made("0:0,x,y;1:0,y");
            s.due("each has some", x.tally(0), 1);
            x.drop(1, 0, 1);
            s.due("one has a single term", x.tally(0), 0);
            x.drop(1, 0, 0);
            s.due("one has none", x.tally(0), 0);
            s.due("there is no intersection 0", x.meeting(0, 0), UNKNOWN);
            s.due("curve 0 has none", Check.made("1:0,x,y").tally(0), 0);
            s.due("both have none", new LeastCurves().tally(0), 0);
        });
    }

    private void numbersOfIntersections() {
        s.test(MEETINGS, 22, "Intersections are numbered as vertices are.", () -> {
            LeastCurves x = Check.made("0:0,2+x,6+2x;1:0,3+y,9+2y");
            s.row("-4 before -2", w -> x.meeting(0, w), -4, 1, -6, 1);
            s.row("for the same x -6 before -3", w -> x.meeting(1, w), -4, 1, -3, 1);
            s.row("then the next x", w -> x.meeting(2, w), -2, 1, -6, 1);
            s.row("and the same ys", w -> x.meeting(3, w), -2, 1, -3, 1);
            s.due("no more", x.meeting(4, 0), UNKNOWN);
            LeastCurves y = Check.made("0:0,3+2x,5+3x;1:0,y");
            s.row("-2 before -3 / 2", w -> y.meeting(0, w), -2, 1, 0, 1);
            s.row("-3 / 2", w -> y.meeting(1, w), -3, 2, 0, 1);
            LeastCurves z = Check.made("0:0,x;1:0,3+2y,5+3y");
            s.row("for the same x -2 before -3 / 2", w -> z.meeting(0, w), 0, 1, -2, 1);
            s.row("-3 / 2", w -> z.meeting(1, w), 0, 1, -3, 2);
        });
    }

    private void simpleOnes() {
        s.test(MEETINGS, 22, "An intersection is simple if it is a vertex of neither curve.", () -> {
            s.due("of neither", Check.made("0:0,x,y;1:3,x,1+y").meeting(0, 5), 1);
            s.due("of curve 0", Check.made("0:0,x,y;1:0,x").meeting(0, 5), 0);
            s.due("of curve 1", Check.made("0:0,x;1:0,x,y").meeting(0, 5), 0);
            s.due("of both", Check.made("0:0,x,y;1:0,x,y").meeting(0, 5), 0);
            s.due("of neither, with the x of a vertex", Check.made("0:0,x,y;1:1,y").meeting(0, 5), 1);
            s.due("of neither, with the y of a vertex", Check.made("0:0,x,y;1:1,x").meeting(0, 5), 1);
            s.due("curves without vertices", Check.made("0:0,x;1:0,y").meeting(0, 5), 1);
        });
    }

    private void promise22Meeting() {
        s.promise(22, "Returns for an intersection, what = 0, 1: numerator and denominator of x; 2, 3: of y;", () -> {
            s.row("(0, 0)", w -> Check.made("0:0,x;1:0,y").meeting(0, w), 0, 1, 0, 1);
            s.row("(1 / 2, 1 / 3)", w -> Check.made("0:1,2x;1:1,3y").meeting(0, w), 1, 2, 1, 3);
            s.row("(-5 / 11, 15 / 11)", w -> Check.made("0:0,3x+y;1:5+2x,3y").meeting(0, w), -5, 11, 15, 11);
            s.row("far away", w -> Check.made("0:999,-999+x;1:-999,999+y").meeting(0, w), 1998, 1, -1998, 1);
        });
        s.promise(22, "Returns for an intersection", () -> {
            LeastCurves x = Check.made("0:0,x;1:0,y");
            s.row("at first", w -> x.meeting(0, w), 0, 1, 0, 1);
            x.put(0, 1, 0, 4);
            s.row("when only curve 0 has changed", w -> x.meeting(0, w), -4, 1, 0, 1);
            x.put(1, 0, 1, 7);
            s.row("when only curve 1 has changed", w -> x.meeting(0, w), -4, 1, -7, 1);
        });
        s.promise(22, "4: its multiplicity;", () -> {
            s.due("the least", Check.made("0:0,x;1:0,y").meeting(0, 4), 1);
            s.due("the greatest", Check.made("0:0,4x;1:0,4y").meeting(0, 4), 16);
        });
        s.promise(22, "5: 1 if it is simple, else 0;", () -> {
            s.due("simple", Check.made("0:0,x;1:0,y").meeting(0, 5), 1);
            s.due("not simple", Check.made("0:0,x,y;1:0,y").meeting(0, 5), 0);
        });
    }

    private void promise22MeetingErrors() {
        s.promise(22, "UNKNOWN if there is no such intersection;", () -> {
            LeastCurves x = Check.made("0:0,2x;1:0,3y");
            s.range("one", k -> x.meeting(k, 4), UNKNOWN, 0, 6, 0, 6);
            LeastCurves y = grid();
            s.range("sixteen", k -> y.meeting(k, 0), UNKNOWN, 0, -70, 15, -10);
            s.due("none", new LeastCurves().meeting(0, 0), UNKNOWN);
        });
        s.promise(22, "OUTSIDE if what is not 0 to 5.", () -> {
            LeastCurves x = Check.made("0:7,x;1:0,y");
            s.range("what", k -> x.meeting(0, k), OUTSIDE, 0, 7, 5, 1);
        });
    }

    private void promise24Meetings() {
        s.promise(24, "Returns what = 0: how many intersections there are;", () -> {
            s.due("no terms", new LeastCurves().tally(0), 0);
            told("0:0,x;1:1,x", 0, 0);
            told("0:0,x;1:1,y", 0, 1);
            told("0:0,x,y;1:7", 0, 0);
            told("0:0,-2+x,2x;1:1,y", 0, 2);
            s.due("the most", grid().tally(0), 16);
        });
        s.promise(24, "1: the sum of their multiplicities;", () -> {
            s.due("no terms", new LeastCurves().tally(1), 0);
            told("0:0,2x;1:1,3y", 1, 6);
            told("0:0,-2+x,3x;1:1,2y", 1, 6);
            s.due("sixteen times 1", grid().tally(1), 16);
            told("0:0,4x;1:0,4y", 1, 16);
        });
        s.promise(24, "2: the mixed area of the sets of the places of all terms of both curves, 0 if a curve has no terms;", () -> {
            s.due("no terms", new LeastCurves().tally(2), 0);
            told("0:0,4x,4y", 2, 0);
            told("1:0,4x,4y", 2, 0);
            told("0:0,4x,4y;1:5", 2, 0);
            told("0:0,4x,4y;1:5,y", 2, 4);
            told("0:0,900+x,2x;1:0,y", 2, 2);
            told("0:0,x,900+y;1:0,y,x", 2, 1);
            s.due("the most", grid().tally(2), 16);
        });
        s.promise(24, "3: how many intersections are simple;", () -> {
            s.due("no terms", new LeastCurves().tally(3), 0);
            told("0:0,x;1:0,y", 3, 1);
            told("0:0,x,y;1:0,y", 3, 0);
            told("0:0,x,2+2x;1:0,y,x+9", 3, 2);
            s.due("all", grid().tally(3), 16);
        });
    }

    private void promise24SameEdges() {
        s.promise(24, "4: 1 if both curves have the same edges (as sets of points), with the same weights, else 0;", () -> {
            s.due("no terms", new LeastCurves().tally(4), 1);
            told("0:3", 4, 1);
            told("0:3;1:5+x+y", 4, 1);
            told("0:0,x", 4, 0);
            told("0:0,x;1:5+y,5+x+y", 4, 1);
            told("0:0,x;1:1,x", 4, 0);
            told("0:0,x,2x;1:0,2x", 4, 1);
            told("0:0,x;1:0,2x", 4, 0);
            told("0:0,-1+x,2x;1:0,2x", 4, 0);
            told("0:0,x,y;1:-4+x+y,-4+2x+y,-4+x+2y", 4, 1);
            told("0:0,x,y;1:x+y,x,y", 4, 0);
            told("0:0,x,y;1:0,x,y,9+x+y", 4, 0);
            told("0:0,x,y,8+x+y;1:0,x,y,9+x+y", 4, 0);
            told("0:0,2x,2y;1:0,2x,2y,x+y", 4, 1);
            told("0:0,2x,2y;1:0,x,y", 4, 0);
            told("0:0,3x,3y,-1+x+y;1:0,3x,3y,-1+x+y,x,2y", 4, 1);
            told("0:0,3x,3y,-1+x+y;1:0,3x,3y,-2+x+y", 4, 0);
        });
    }

    private void promise24Others() {
        s.promise(24, "5: how many changes can be undone;", () -> {
            LeastCurves x = new LeastCurves();
            s.due("none", x.tally(5), 0);
            for (int many = 1; many <= 10; many++) {
                x.put(0, 0, 0, many);
                s.due("after " + many, x.tally(5), Math.min(many, 8));
            }
            x.undo();
            s.due("one undone", x.tally(5), 7);
            x.keep(0);
            x.back(0);
            s.due("behind back()", x.tally(5), 0);
        });
        s.promise(24, "6: how many bytes the text has;", () -> {
            LeastCurves x = new LeastCurves();
            s.due("none", x.tally(6), 0);
            x.write(0);
            s.due("one", x.tally(6), 1);
            Check.write(x, " ".repeat(250));
            s.due("two hundred", x.tally(6), 200);
            x.erase();
            s.due("none again", x.tally(6), 0);
            Check.write(x, "0:x").curves();
            s.due("none behind curves()", x.tally(6), 0);
        });
        s.promise(24, "OUTSIDE if what is not 0 to 6.", () -> {
            LeastCurves x = Check.write(Check.made("0:0,x;1:0,y"), "123");
            s.range("what", k -> x.tally(k), OUTSIDE, 0, 1, 6, 3);
        });
    }
}

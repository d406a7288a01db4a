/** Promises 17 to 21 and 23: what is told of vertices, edges, regions, ways and numbers of one curve. */
final class LookSentences {
    private static final int NONE = Sentences.NONE, UNKNOWN = Sentences.UNKNOWN, OUTSIDE = Sentences.OUTSIDE;
    private static final int NOT = Sentences.NOT, MOST = Sentences.MOST, LEAST = Sentences.LEAST;
    private static final String LINE = ShapeSentences.LINE, HOLE = ShapeSentences.HOLE, HALF = ShapeSentences.HALF;

    private final Sentences s;

    LookSentences(Sentences s) {
        this.s = s;
    }

    void all() {
        promise17Corner();
        promise17CornerErrors();
        promise18Edge();
        promise18EdgeEnds();
        promise18EdgeErrors();
        promise19Region();
        promise19RegionErrors();
        promise20Lift();
        promise20LiftBounds();
        promise21Way();
        promise21WayErrors();
        promise23Terms();
        promise23Vertices();
        promise23Edges();
        promise23Regions();
        promise23Errors();
    }

    /** As many vertices, edges and holes as can be: six-sided cells on all 15 places. */
    private static LeastCurves greatest() {
        LeastCurves x = new LeastCurves();
        for (int i = 0; i <= 4; i++) {
            for (int j = 0; i + j <= 4; j++) {
                x.put(0, i, j, i * i + i * j + j * j);
            }
        }
        return x;
    }

    private void promise17Corner() {
        s.promise(17, "Returns for a vertex of a curve, what = 0, 1: numerator and denominator of x; 2, 3: of y;", () -> {
            s.row("(0, 0)", w -> Check.made(LINE).corner(0, 0, w), 0, 1, 0, 1);
            s.row("(-1 / 2, -1 / 3)", w -> Check.made("0:0,1+2x,1+3y").corner(0, 0, w), -1, 2, -1, 3);
            s.row("of curve 1", w -> Check.made("0:0,x,y;1:0,1+3x,1+2y").corner(1, 0, w), -1, 3, -1, 2);
            s.row("as far to the right as can be", w -> Check.made("0:999,-999+x,y").corner(0, 0, w), 1998, 1, 999, 1);
            s.row("as far to the left as can be", w -> Check.made("0:-999,999+x,y").corner(0, 0, w), -1998, 1, -999, 1);
            s.row("a denominator of 16", w -> Check.made("0:0,1+4x,y+3x").corner(0, 0, w), -1, 4, 3, 4);
        });
        s.promise(17, "4: the area of its cell;", () -> {
            s.due("the least", Check.made(LINE).corner(0, 0, 4), 1);
            s.due("the greatest", Check.made("0:0,4x,4y").corner(0, 0, 4), 16);
            s.due("the first of two", Check.made("0:0,x,2y,1+2x+2y").corner(0, 0, 4), 4);
            s.due("the second of two", Check.made("0:0,x,2y,1+2x+2y").corner(0, 1, 4), 2);
        });
        s.promise(17, "5: how many edges end at it;", () -> {
            s.due("three rays", Check.made(LINE).corner(0, 0, 5), 3);
            s.due("two rays and a bounded edge, at its start", Check.made(HALF).corner(0, 0, 5), 3);
            s.due("two rays and a bounded edge, at its end", Check.made(HALF).corner(0, 1, 5), 3);
            s.due("one ray and two bounded edges", Check.made(HOLE).corner(0, 0, 5), 3);
            s.due("four", Check.made("0:0,x,y,x+y").corner(0, 0, 5), 4);
            s.due("six", Check.made("0:0,x,2x+y,x+2y,y,2x+2y").corner(0, 0, 5), 6);
        });
        s.promise(17, "6: its leading set;", () -> {
            s.due("three places", Check.made(LINE).corner(0, 0, 6), 35);
            s.due("with the place 20", Check.made("0:4x,3x,3x+y").corner(0, 0, 6), 1 << 20 | 1 << 15 | 1 << 16);
            s.due("with a place that is not at a corner of the hull", Check.made("0:0,x,2x,2y").corner(0, 0, 6), 1 | 1 << 5 | 1 << 10 | 4);
            s.due("not with that place, one higher", Check.made("0:0,1+x,2x,2y").corner(0, 0, 6), 1 | 1 << 10 | 4);
        });
    }

    private void promise17CornerErrors() {
        LeastCurves x = Check.made("0:0,x,y;1:0,2x,2y,1+2x+2y");
        s.promise(17, "UNKNOWN if there is no such curve or vertex;", () -> {
            s.curves("corner", k -> x.corner(k, 0, 4), 1, 4);
            s.range("one vertex", k -> x.corner(0, k, 4), UNKNOWN, 0, 1, 0, 1);
            s.range("two vertices", k -> x.corner(1, k, 0), UNKNOWN, 0, -1, 1, 0);
            LeastCurves most = greatest();
            s.range("sixteen vertices", k -> most.corner(0, k, 4), UNKNOWN, 0, 1, 15, 1);
            s.due("no vertex 0", Check.made("0:0,x,2x").corner(0, 0, 4), UNKNOWN);
            s.due("no terms", new LeastCurves().corner(1, 0, 4), UNKNOWN);
        });
        s.promise(17, "OUTSIDE if what is not 0 to 6.", () -> s.range("what", k -> x.corner(0, 0, k), OUTSIDE, 0, 0, 6, 35));
    }

    private void promise18Edge() {
        s.promise(18, "Returns for an edge of a curve, what = 0: its foot;", () -> {
            s.due("of edge 0", Check.made(LINE).edge(0, 0, 0), 0);
            s.due("of edge 2", Check.made(LINE).edge(0, 2, 0), 1);
            s.due("as great as can be", Check.made("0:4x,3x+y").edge(0, 0, 0), 16);
        });
        s.promise(18, "1: its head;", () -> {
            s.due("of edge 0", Check.made(LINE).edge(0, 0, 1), 1);
            s.due("of edge 2", Check.made(LINE).edge(0, 2, 1), 5);
            s.due("as great as can be", Check.made("0:4x,3x+y").edge(0, 0, 1), 20);
        });
        s.promise(18, "2: its weight;", () -> {
            s.due("the least", Check.made(LINE).edge(0, 0, 2), 1);
            s.due("the greatest", Check.made("0:4x,4y").edge(0, 0, 2), 4);
            s.due("of edge 1", Check.made("0:0,2x,3y").edge(0, 1, 2), 2);
        });
        s.promise(18, "5, 6: u and v of its direction;", () -> {
            s.row("of a ray", w -> Check.made(LINE).edge(0, 2, w + 5), -1, -1);
            s.row("of a bounded edge", w -> Check.made(HOLE).edge(0, 1, w + 5), 1, -1);
            s.row("of an edge without ends", w -> Check.made("0:0,x+2y").edge(0, 0, w + 5), 2, -1);
        });
        s.promise(18, "9: 1 if it is a bridge, else 0;", () -> {
            s.due("a bridge", Check.made(HALF).edge(0, 2, 9), 1);
            s.due("bounded, and no bridge", Check.made(HOLE).edge(0, 1, 9), 0);
            s.due("not bounded", Check.made(HALF).edge(0, 1, 9), 0);
            s.due("without ends", Check.made("0:0,x").edge(0, 0, 9), 0);
            LeastCurves x = Check.made("0:0,3x,3y,-1+x+y,6+3x+y");
            s.row("a bridge beside a hole", w -> x.edge(0, 4, w), 3, 15, 3, 0, 1, 1, 1, 5, 1, 1);
            s.due("a side of the hole", x.edge(0, 3, 9), 0);
        });
    }

    private void promise18EdgeEnds() {
        s.promise(18, "3: its start, NONE if there is none;", () -> {
            s.due("bounded", Check.made(HALF).edge(0, 2, 3), 0);
            s.due("a ray from vertex 1", Check.made(HALF).edge(0, 0, 3), 1);
            s.due("without ends", Check.made("0:0,x").edge(0, 0, 3), NONE);
        });
        s.promise(18, "4: its end, NONE if it is not bounded;", () -> {
            s.due("bounded", Check.made(HALF).edge(0, 2, 4), 1);
            s.due("a ray", Check.made(HALF).edge(0, 0, 4), NONE);
            s.due("without ends", Check.made("0:0,x").edge(0, 0, 4), NONE);
        });
        s.promise(18, "7, 8: numerator and denominator of its length, NONE if it is not bounded;", () -> {
            s.row("bounded", w -> Check.made(HALF).edge(0, 2, w + 7), 1, 2);
            s.row("a ray", w -> Check.made(HALF).edge(0, 0, w + 7), NONE, NONE);
            s.row("without ends", w -> Check.made("0:0,x").edge(0, 0, w + 7), NONE, NONE);
        });
    }

    private void promise18EdgeErrors() {
        LeastCurves x = Check.made("0:0,x,y;1:0,4x");
        s.promise(18, "UNKNOWN if there is no such curve or edge;", () -> {
            s.curves("edge", k -> x.edge(k, 0, 2), 1, 4);
            s.range("three edges", k -> x.edge(0, k, 1), UNKNOWN, 0, 1, 2, 5);
            s.range("one edge", k -> x.edge(1, k, 1), UNKNOWN, 0, 20, 0, 20);
            LeastCurves most = greatest();
            s.range("thirty edges", k -> most.edge(0, k, 0), UNKNOWN, 0, 0, 29, 16);
            s.due("one term", Check.made("0:5").edge(0, 0, 0), UNKNOWN);
            s.due("no terms", new LeastCurves().edge(1, 0, 0), UNKNOWN);
        });
        s.promise(18, "OUTSIDE if what is not 0 to 9.", () -> s.range("what", k -> x.edge(0, 2, k), OUTSIDE, 0, 1, 9, 0));
    }

    private void promise19Region() {
        s.promise(19, "Returns for the term at a place, what = 0: 0 if it is hidden, 1 if its region is closed, 2 if it is open;", () -> {
            s.due("hidden", Check.made("0:0,3x,3y,x+y").region(0, 1, 1, 0), 0);
            s.due("closed", Check.made(HOLE).region(0, 1, 1, 0), 1);
            s.due("open", Check.made(HOLE).region(0, 3, 0, 0), 2);
            s.due("alone", Check.made("0:999").region(0, 0, 0, 0), 2);
        });
        s.promise(19, "1: how many sides it has;", () -> {
            s.due("hidden", Check.made("0:0,3x,3y,x+y").region(0, 1, 1, 1), 0);
            s.due("closed", Check.made(HOLE).region(0, 1, 1, 1), 3);
            s.due("open", Check.made(LINE).region(0, 0, 1, 1), 2);
            s.due("alone", Check.made("0:999").region(0, 0, 0, 1), 0);
            s.due("as many as can be", greatest().region(0, 1, 1, 1), 6);
        });
        s.promise(19, "2, 3: numerator and denominator of the perimeter of its region, NONE if it is not closed;", () -> {
            s.row("hidden", w -> Check.made("0:0,3x,3y,x+y").region(0, 1, 1, w + 2), NONE, NONE);
            s.row("closed", w -> Check.made("0:0,4x,3y,-1+x+y").region(0, 1, 1, w + 2), 12, 5);
            s.row("open", w -> Check.made(HOLE).region(0, 3, 0, w + 2), NONE, NONE);
            s.row("alone", w -> Check.made("0:999").region(0, 0, 0, w + 2), NONE, NONE);
        });
    }

    private void promise19RegionErrors() {
        LeastCurves x = Check.made("0:0,3x,3y,-1+x+y;1:0");
        s.promise(19, "UNKNOWN if there is no such curve;", () -> s.curves("region", k -> x.region(k, 0, 0, 1), 3, 0));
        s.promise(19, "OUTSIDE if (i, j) is no place, or if what is not 0 to 3;", () -> {
            LeastCurves y = greatest();
            s.places("region", (i, j) -> y.region(0, i, j, 0), (i, j) -> i > 0 && j > 0 && i + j < 4 ? 1 : 2);
            s.range("what", k -> x.region(0, 1, 1, k), OUTSIDE, 0, 1, 3, 1);
        });
        s.promise(19, "NOT if there is no term at the place.", () -> {
            s.due("there is one", x.region(0, 1, 1, 0), 1);
            s.due("there is none", x.region(0, 2, 1, 0), NOT);
            s.due("none at all", new LeastCurves().region(1, 0, 0, 3), NOT);
            LeastCurves y = Check.made(HOLE);
            y.drop(0, 1, 1);
            s.due("there is none any more", y.region(0, 1, 1, 0), NOT);
        });
    }

    private void promise20Lift() {
        s.promise(20, "Returns the greatest c from -999 to 999 such that a term with c at this place, "
            + "instead of the one that may be there, would not be hidden;", () -> {
            LeastCurves x = Check.made(HOLE);
            s.due("a term of a hole", x.lift(0, 1, 1), -1);
            s.due("on a side of the hull", x.lift(0, 2, 0), -1);
            s.due("at a corner of the hull", x.lift(0, 3, 0), 999);
            s.due("outside the hull", x.lift(0, 4, 0), 999);
            s.due("a third, rounded down", Check.made("0:0,1+3x").lift(0, 1, 0), 0);
            s.due("minus a third, rounded down", Check.made("0:0,-1+3x").lift(0, 1, 0), -1);
            s.due("the third of 3, for 1 is hidden", Check.made("0:0,3+3x").lift(0, 1, 0), 0);
            s.due("the c that is there does not count", Check.made("0:0,-500+x,3+3x").lift(0, 1, 0), 0);
            s.due("nor if it is hidden", Check.made("0:0,500+x,3+3x").lift(0, 1, 0), 0);
            s.due("no other terms", Check.made("0:5").lift(0, 0, 0), 999);
            s.due("no terms", new LeastCurves().lift(1, 2, 2), 999);
        });
        s.promise(20, "the greatest c from -999 to 999", () -> {
            isGreatest(greatest());
            for (String text : new String[] {HOLE, HALF, LINE, "0:0,1+3y", "0:0,-1+3y", "0:5,7+4y", "0:x,1+x+3y,2x", "0:1,4x", "0:3x,4x",
                "0:0,4x,1+4y", "0:1+4x,4y", "0:7,2x+y,3y,3x", "0:-7,2+3x,1+3y", "0:3+2y,1+3x,1+3x+y", "0:6,4+x+3y,1+3x+y",
                "0:4,5+x+2y,2+2x+y,9+x", "0:-9,6+3x,3y,-8+2x+2y", "0:1+y,3y,2+4x", "0:y,5+2x+y,1+2x+2y,3x", "0:-997,-998+4x,-996+4y",
                "0:999,998+4x,999+4y", "0:-999,999+4x,4y", "0:2,x,2y,8+3x,5+4y"}) {
                isGreatest(Check.made(text));
            }
        });
        s.promise(20, "nothing is changed;", () -> {
            LeastCurves x = Check.made("0:0,3x,3y,5+x+y,1+x");
            x.put(1, 0, 0, 0);
            String before = State.usedUp(x);
            LeastCurves y = Check.made("0:0,3x,3y,5+x+y,1+x");
            y.put(1, 0, 0, 0);
            s.due("hidden before", y.region(0, 1, 1, 0), 0);
            s.due("lift where a term is", y.lift(0, 1, 1), -1);
            s.due("lift where none is", y.lift(0, 2, 0), -1);
            s.due("hidden behind", y.region(0, 1, 1, 0), 0);
            s.holds("all is as it was", State.usedUp(y).equals(before));
        });
    }

    /** At each place: a term with the answer is not hidden, one with the next c is. */
    private void isGreatest(LeastCurves x) {
        x.keep(0);
        for (int place = 0; place < 21; place++) {
            int i = place / 5;
            int j = place % 5;
            if (i + j <= 4) {
                int c = x.lift(0, i, j);
                if (c != NONE) {
                    x.put(0, i, j, c);
                    s.holds("not hidden at " + place + " with " + c, x.region(0, i, j, 0) > 0);
                }
                if (c < 999) {
                    x.put(0, i, j, c == NONE ? -999 : c + 1);
                    s.due("hidden at " + place + " with more than " + c, x.region(0, i, j, 0), 0);
                }
                x.back(0);
            }
        }
    }

    private void promise20LiftBounds() {
        s.promise(20, "NONE if it would be hidden with each of these;", () -> {
            s.due("hidden at -999", Check.made("0:-999,-999+2x").lift(0, 1, 0), NONE);
            s.due("not hidden at -999", Check.made("0:-999,-998+2x").lift(0, 1, 0), -999);
            s.due("not hidden at -999, with room", Check.made("0:-998,-998+2x").lift(0, 1, 0), -999);
            s.due("not hidden at -998", Check.made("0:-998,-997+2x").lift(0, 1, 0), -998);
            s.due("within a triangle: hidden at -999", Check.made("0:-999,-999+3x,-999+3y").lift(0, 1, 1), NONE);
            s.due("within a triangle: not hidden", Check.made("0:-999,-999+3x,-998+3y").lift(0, 1, 1), -999);
            s.due("hidden at 999", Check.made("0:999,999+2x").lift(0, 1, 0), 998);
        });
        s.promise(20, "UNKNOWN if there is no such curve;", () ->
            s.curves("lift", k -> Check.made("0:0,2x;1:6,2x").lift(k, 1, 0), -1, 2));
        s.promise(20, "OUTSIDE if (i, j) is no place.", () -> {
            LeastCurves x = new LeastCurves();
            s.places("lift", (i, j) -> x.lift(0, i, j), (i, j) -> 999);
        });
    }

    private void promise21Way() {
        s.promise(21, "Returns for the shortest way between two vertices of a curve, what = 0, 1: numerator and denominator of its length (the sum);", () -> {
            s.row("one edge", w -> Check.made(HALF).way(0, 0, 1, w), 1, 2);
            s.row("back", w -> Check.made(HALF).way(0, 1, 0, w), 1, 2);
            s.row("no edge", w -> Check.made(HALF).way(0, 1, 1, w), 0, 1);
            s.row("the sum of four", w -> greatest().way(0, 0, 8, w), 4, 1);
            LeastCurves x = Check.made("0:0,2x,2y,1+2x+2y,3+4x");
            s.row("the sum of two", w -> x.way(0, 0, 2, w), 3, 2);
            s.row("of curve 1", w -> Check.made("0:0,x,y;1:0,2x,2y,1+2x+2y").way(1, 0, 1, w), 1, 2);
        });
        s.promise(21, "2: the smallest number of edges of all ways of this length;", () -> {
            s.due("to itself", Check.made(HOLE).way(0, 2, 2, 2), 0);
            s.row("from the first of sixteen vertices to the last", w -> greatest().way(0, 0, 15, w), 6, 1, 6);
            s.row("from the last to the first", w -> greatest().way(0, 15, 0, w), 6, 1, 6);
            s.due("one side of a hole", Check.made(HOLE).way(0, 2, 1, 2), 1);
            LeastCurves square = Check.made("0:0,2x,2y,2x+2y,-1+x+y");
            s.row("across a square, both ways alike", w -> square.way(0, 0, 3, w), 2, 1, 2);
            LeastCurves x = Check.made("0:-1+x,-2+2x+y,4+4x,x+2y,1+3x,3+y");
            s.row("one edge, for three are as long", w -> x.way(0, 0, 3, w), 19, 2, 1);
            LeastCurves y = Check.made("0:4+4x,1+2x+y,3y,2+2y,x+y,2+2x+2y,3+x+3y,-2+y");
            s.row("two edges, for three are as long", w -> y.way(0, 0, 3, w), 5, 2, 2);
        });
        s.promise(21, "NONE if there is no way;", () -> {
            for (LeastCurves x : new LeastCurves[] {Check.made(HOLE), Check.made("0:0,x,3+2x,y,x+y,4+2x+y")}) {
                for (int from = 0; from < 3; from++) {
                    for (int to = 0; to < 3; to++) {
                        s.holds("there is one, for the edges of a curve with vertices hang together", x.way(0, from, to, 0) >= 0);
                    }
                }
            }
        });
    }

    private void promise21WayErrors() {
        LeastCurves x = Check.made("0:0,2x,2y,1+2x+2y;1:0,x,y");
        s.promise(21, "UNKNOWN if there is no such curve, or if one of the vertices does not exist;", () -> {
            s.curves("way", k -> x.way(k, 0, 0, 1), 1, 1);
            s.range("from", k -> x.way(0, k, 1, 2), UNKNOWN, 0, 1, 1, 0);
            s.range("to", k -> x.way(0, 1, k, 2), UNKNOWN, 0, 1, 1, 0);
            s.range("from a single vertex", k -> x.way(1, k, 0, 2), UNKNOWN, 0, 0, 0, 0);
            LeastCurves most = greatest();
            s.range("to one of sixteen", k -> most.way(0, 15, k, 1), UNKNOWN, 0, 1, 15, 1);
            s.due("neither", x.way(0, 2, 2, 0), UNKNOWN);
            s.due("without vertices", Check.made("0:0,x").way(0, 0, 0, 0), UNKNOWN);
            s.due("without terms", new LeastCurves().way(0, 0, 0, 0), UNKNOWN);
        });
        s.promise(21, "OUTSIDE if what is not 0 to 2.", () -> s.range("what", k -> x.way(0, 0, 1, k), OUTSIDE, 0, 1, 2, 1));
    }

    private void number(String text, int what, long want) {
        s.due("of " + text, Check.made(text).count(0, what), want);
    }

    private void promise23Terms() {
        s.promise(23, "what: 0: how many terms it has;", () -> {
            s.due("none", new LeastCurves().count(0, 0), 0);
            number("0:5", 0, 1);
            number("0:0,1+x,2x", 0, 3);
            s.due("all", greatest().count(0, 0), 15);
        });
        s.promise(23, "1: how many of them are not hidden;", () -> {
            s.due("none", new LeastCurves().count(0, 1), 0);
            number("0:5", 1, 1);
            number("0:0,x,2x", 1, 2);
            number("0:0,-1+x,2x", 1, 3);
            number("0:0,3x,3y,x+y", 1, 3);
            number(HOLE, 1, 4);
            s.due("all", greatest().count(0, 1), 15);
        });
        s.promise(23, "11: the greatest i + j of a term, NONE if there are no terms.", () -> {
            s.due("no terms", new LeastCurves().count(0, 11), NONE);
            number("0:5", 11, 0);
            number("0:5,y", 11, 1);
            number("0:x+2y,2x", 11, 3);
            number("0:4x", 11, 4);
            number("0:4y,0", 11, 4);
            number("0:0,900+x+3y,4x", 11, 4);
            LeastCurves x = Check.made("0:5");
            x.drop(0, 0, 0);
            s.due("no terms any more", x.count(0, 11), NONE);
        });
    }

    private void promise23Vertices() {
        s.promise(23, "2: vertices;", () -> {
            number("0:5", 2, 0);
            number("0:0,x,2x", 2, 0);
            number(LINE, 2, 1);
            number(HOLE, 2, 3);
            s.due("the most", greatest().count(0, 2), 16);
        });
        s.promise(23, "8: the sum of the areas of the cells of all vertices;", () -> {
            s.due("no terms", new LeastCurves().count(0, 8), 0);
            number("0:0,x,2x", 8, 0);
            number(LINE, 8, 1);
            number(HALF, 8, 8);
            number(HOLE, 8, 9);
            number("0:0,4x,4y", 8, 16);
            s.due("sixteen cells of 1", greatest().count(0, 8), 16);
        });
        s.promise(23, "9: 1 if there are vertices and the cell of each has area 1, else 0;", () -> {
            s.due("no terms", new LeastCurves().count(0, 9), 0);
            number("0:0,x", 9, 0);
            number(LINE, 9, 1);
            number("0:0,x,y,x+y", 9, 0);
            number("0:0,x,y,1+x+y", 9, 1);
            number("0:0,x,y,1+2x+y", 9, 0);
            number(HOLE, 9, 0);
            s.due("sixteen cells of 1", greatest().count(0, 9), 1);
        });
    }

    private void promise23Edges() {
        s.promise(23, "3: edges;", () -> {
            s.due("no terms", new LeastCurves().count(0, 3), 0);
            number("0:5", 3, 0);
            number("0:0,x", 3, 1);
            number("0:0,-1+x,2x", 3, 2);
            number(HOLE, 3, 6);
            s.due("the most", greatest().count(0, 3), 30);
        });
        s.promise(23, "4: bounded edges;", () -> {
            number("0:0,x", 4, 0);
            number(LINE, 4, 0);
            number(HALF, 4, 1);
            number(HOLE, 4, 3);
            s.due("the most", greatest().count(0, 4), 18);
        });
        s.promise(23, "5: edges that end at exactly one vertex;", () -> {
            number("0:0,x", 5, 0);
            number(LINE, 5, 3);
            number(HALF, 5, 4);
            number(HOLE, 5, 3);
            s.due("the most", greatest().count(0, 5), 12);
        });
        s.promise(23, "7: bridges;", () -> {
            number("0:0,x", 7, 0);
            number(LINE, 7, 0);
            number(HALF, 7, 1);
            number(HOLE, 7, 0);
            number("0:0,x,3+2x,y,x+y,4+2x+y", 7, 2);
            s.due("three, to the corners", greatest().count(0, 7), 3);
        });
        s.promise(23, "10: the greatest weight of an edge, 0 if there are no edges;", () -> {
            s.due("no terms", new LeastCurves().count(0, 10), 0);
            number("0:5", 10, 0);
            number("0:0,x", 10, 1);
            number("0:0,2x,3y", 10, 3);
            number("0:0,2y,3x", 10, 3);
            number("0:0,x,4x,4y", 10, 4);
        });
    }

    private void promise23Regions() {
        s.promise(23, "6: holes;", () -> {
            s.due("no terms", new LeastCurves().count(0, 6), 0);
            number("0:5", 6, 0);
            number(LINE, 6, 0);
            number("0:0,3x,3y,x+y", 6, 0);
            number(HOLE, 6, 1);
            s.due("the most", greatest().count(0, 6), 3);
        });
    }

    private void promise23Errors() {
        LeastCurves x = Check.made("0:0,x,y;1:0,4x");
        s.promise(23, "Returns a number about a curve. - curve: the curve.", () -> {
            s.due("terms of curve 0", x.count(0, 0), 3);
            s.due("terms of curve 1", x.count(1, 0), 2);
        });
        s.promise(23, "Returns that; UNKNOWN if there is no such curve;", () -> s.curves("count", k -> x.count(k, 3), 3, 1));
        s.promise(23, "OUTSIDE if what is not 0 to 11.", () -> {
            s.range("what", k -> x.count(0, k), OUTSIDE, 0, 3, 11, 1);
            s.due("what 12 without terms", new LeastCurves().count(0, 12), OUTSIDE);
            s.due("what MOST", x.count(1, MOST), OUTSIDE);
            s.due("what LEAST", x.count(1, LEAST), OUTSIDE);
        });
    }
}

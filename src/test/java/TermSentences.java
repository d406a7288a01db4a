/** Section 1 of the document, and promises 6 to 13: terms and what changes them. */
final class TermSentences {
    private static final int NONE = Sentences.NONE, UNKNOWN = Sentences.UNKNOWN, OUTSIDE = Sentences.OUTSIDE;
    private static final int NOT = Sentences.NOT;
    private static final String TERMS = Sentences.TERMS;

    private final Sentences s;

    TermSentences(Sentences s) {
        this.s = s;
    }

    void all() {
        curvesAndPlaces();
        valuesAndLeadingSets();
        promise6Term();
        promise7Value();
        promise7ValueOutside();
        promise8Put();
        promise9Drop();
        promise10Move();
        promise10MoveNotPossible();
        promise11Mirror();
        promise12Join();
        promise13Times();
        promise13TimesNotPossible();
    }

    /** All places, c as a test wants it. */
    private static LeastCurves withAllPlaces(Sentences.AtPlace c) {
        LeastCurves x = new LeastCurves();
        for (int i = 0; i <= 4; i++) {
            for (int j = 0; i + j <= 4; j++) {
                x.put(0, i, j, (int) c.at(i, j));
            }
        }
        return x;
    }

    private void curvesAndPlaces() {
        s.test(TERMS, 6, "There are two curves, 0 and 1.", () -> {
            LeastCurves x = Check.made("0:7;1:8");
            s.curves("term", k -> x.term(k, 0, 0), 7, 8);
            x.put(0, 0, 0, 9);
            s.due("a change of curve 0 leaves curve 1", x.term(1, 0, 0), 8);
        });
        s.test(TERMS, 6, "Each has terms; at first none.", () -> {
            LeastCurves x = new LeastCurves();
            s.places("term of curve 0", (i, j) -> x.term(0, i, j), (i, j) -> NONE);
            s.places("term of curve 1", (i, j) -> x.term(1, i, j), (i, j) -> NONE);
        });
        s.test(TERMS, 8, "A place is a pair (i, j) of integers from 0 to 4 with i + j at most 4", () ->
            s.places("put", (i, j) -> new LeastCurves().put(0, i, j, 0), (i, j) -> 1));
        s.test(TERMS, 7, "its number is 5 i + j", () -> {
            for (int i = 0; i <= 4; i++) {
                for (int j = 0; i + j <= 4; j++) {
                    LeastCurves x = new LeastCurves();
                    x.put(1, i, j, 5);
                    s.due("the leading set of a term at (" + i + ", " + j + ")", x.value(1, 0, 0, 1, 1), 1L << 5 * i + j);
                }
            }
        });
        s.test(TERMS, 8, "A curve has at most one term at each place", () -> {
            LeastCurves x = new LeastCurves();
            s.due("the first at (2, 2)", x.put(0, 2, 2, 5), 1);
            s.due("the second at (2, 2)", x.put(0, 2, 2, 6), 1);
            s.due("the first at (2, 1)", x.put(0, 2, 1, 6), 2);
            s.due("at (2, 2) of the other curve", x.put(1, 2, 2, 7), 1);
            s.due("the second is there", x.term(0, 2, 2), 6);
        });
    }

    private void valuesAndLeadingSets() {
        s.test(TERMS, 8, "a term has an integer c from -999 to 999", () ->
            s.range("c", c -> new LeastCurves().put(0, 0, 0, c), OUTSIDE, -999, 1, 999, 1));
        s.test(TERMS, 7, "its value at a point (x, y) is c + i x + j y.", () -> {
            s.due("of 5 at (0, 0)", Check.made("0:5").value(0, 100, 200, 1, 0), 5);
            s.due("of 5 at (4, 0)", Check.made("0:5+4x").value(0, 100, 200, 1, 0), 405);
            s.due("of 5 at (0, 4)", Check.made("0:5+4y").value(0, 100, 200, 1, 0), 805);
            s.due("of -999 at (1, 3)", Check.made("0:-999+x+3y").value(0, 100, 200, 1, 0), -299);
            s.due("of 999 at (2, 1)", Check.made("0:999+2x+y").value(0, -9999, -9999, 1, 0), 999 - 3 * 9999);
        });
        s.test(TERMS, 7, "The value of a curve at a point is the smallest value of its terms there.", () -> {
            LeastCurves x = Check.made("0:6,x");
            s.due("left of x = 6", x.value(0, 5, 0, 1, 0), 5);
            s.due("at x = 6", x.value(0, 6, 0, 1, 0), 6);
            s.due("right of x = 6", x.value(0, 7, 0, 1, 0), 6);
            s.due("of one term", Check.made("0:6").value(0, 5, 0, 1, 0), 6);
            s.due("the first, the second and the third", Check.made("0:3,2+x,1+y").value(0, 0, 0, 1, 0), 1);
        });
        s.test(TERMS, 7, "The leading set of a point is the set of the places of all terms that have this smallest value.", () -> {
            LeastCurves x = Check.made("0:6,x,6+y");
            s.due("1 / 60 left of x = 6", x.value(0, 359, 60, 60, 1), 32);
            s.due("at x = 6", x.value(0, 360, 60, 60, 1), 33);
            s.due("1 / 60 right of x = 6", x.value(0, 361, 60, 60, 1), 1);
            s.due("1 / 60 above y = 0", x.value(0, 360, 1, 60, 1), 33);
            s.due("at y = 0", x.value(0, 360, 0, 60, 1), 35);
            s.due("1 / 60 below y = 0", x.value(0, 360, -1, 60, 1), 2);
        });
    }

    private void promise6Term() {
        LeastCurves x = Check.made("0:7+4x,-999+4y,999+2x+2y,0;1:5");
        s.promise(6, "Returns c of the term at a place", () -> {
            s.due("at (4, 0)", x.term(0, 4, 0), 7);
            s.due("at (0, 4), the least c", x.term(0, 0, 4), -999);
            s.due("at (2, 2), the greatest c", x.term(0, 2, 2), 999);
            s.due("at (0, 0), c is 0", x.term(0, 0, 0), 0);
        });
        s.promise(6, "NONE if there is no term", () -> {
            s.due("beside a term", x.term(0, 3, 0), NONE);
            s.due("where the other curve has one", Check.made("1:5").term(0, 0, 0), NONE);
            s.due("where the curve has one", Check.made("1:5").term(1, 0, 0), 5);
        });
        s.promise(6, "UNKNOWN if there is no such curve", () -> s.curves("term", k -> x.term(k, 0, 0), 0, 5));
        s.promise(6, "OUTSIDE if (i, j) is no place", () ->
            s.places("term", (i, j) -> withAllPlaces((a, b) -> 9).term(0, i, j), (i, j) -> 9));
    }

    private void promise7Value() {
        LeastCurves x = Check.made("0:6,x,y;1:-2+4y");
        s.promise(7, "Evaluates a curve at the point (x / d, y / d).", () -> {
            s.due("at (1, 2), d = 1", x.value(0, 1, 2, 1, 1), 32);
            s.due("at (1, 2), d = 60", x.value(0, 60, 120, 60, 1), 32);
            s.due("at (2, 1), d = 60", x.value(0, 120, 60, 60, 1), 2);
            s.due("at (1 / 60, 1 / 60)", x.value(0, 1, 1, 60, 1), 34);
            s.due("at (-1 / 60, 0)", x.value(0, -1, 0, 60, 1), 32);
        });
        s.promise(7, "what: 0: d times the value of the curve there; 1: the leading set.", () -> {
            s.due("d 1", x.value(0, 7, 8, 1, 0), 6);
            s.due("d 2", x.value(0, 7, 8, 2, 0), 7);
            s.due("d 60", x.value(0, 9999, 9999, 60, 0), 360);
            s.due("d 60, the leading set is no multiple", x.value(0, 9999, 9999, 60, 1), 1);
            s.due("below 0, no integer", x.value(0, -1, 8, 7, 0), -1);
        });
        s.promise(7, "Returns that; UNKNOWN if there is no such curve", () ->
            s.curves("value at (1, 1)", k -> x.value(k, 1, 1, 1, 0), 1, 2));
        s.promise(7, "NOT if the curve has no terms.", () -> {
            LeastCurves y = Check.made("0:5");
            s.due("none, what = 0", y.value(1, 0, 0, 1, 0), NOT);
            s.due("none, what = 1", y.value(1, 0, 0, 1, 1), NOT);
            s.due("one", y.value(0, 0, 0, 1, 0), 5);
            y.drop(0, 0, 0);
            s.due("none any more", y.value(0, 0, 0, 1, 0), NOT);
        });
    }

    private void promise7ValueOutside() {
        LeastCurves x = Check.made("0:6+x,y;1:-2+4y");
        s.promise(7, "curve: the curve. - x: -9999 to 9999.", () ->
            s.range("x", k -> x.value(0, k, 9999, 1, 0), OUTSIDE, -9999, -9993, 9999, 9999));
        s.promise(7, "- y: -9999 to 9999.", () ->
            s.range("y", k -> x.value(1, 0, k, 1, 0), OUTSIDE, -9999, -39998, 9999, 39994));
        s.promise(7, "- d: 1 to 60.", () ->
            s.range("d", k -> x.value(0, 1, 1000, k, 0), OUTSIDE, 1, 7, 60, 361));
        s.promise(7, "OUTSIDE if another argument is out of range", () -> {
            s.range("what", k -> x.value(0, 1, 9, 1, k), OUTSIDE, 0, 7, 1, 32);
            s.due("x and y and d and what", x.value(0, -10000, 10000, 0, -1), OUTSIDE);
        });
    }

    private void promise8Put() {
        s.promise(8, "Puts a term with c at a place, instead of the one that is there.", () -> {
            LeastCurves x = new LeastCurves();
            x.put(0, 1, 2, 5);
            s.due("where none was", x.term(0, 1, 2), 5);
            x.put(0, 1, 2, 7);
            s.due("a greater c instead", x.term(0, 1, 2), 7);
            x.put(0, 1, 2, -7);
            s.due("a smaller c instead", x.term(0, 1, 2), -7);
            s.due("no other place", x.term(0, 2, 1), NONE);
        });
        s.promise(8, "@return how many terms the curve has then", () -> {
            LeastCurves x = Check.made("1:5");
            int terms = 0;
            for (int i = 0; i <= 4; i++) {
                for (int j = 0; i + j <= 4; j++) {
                    terms++;
                    s.due("a new place", x.put(0, i, j, 0), terms);
                    s.due("the same place", x.put(0, i, j, 1), terms);
                }
            }
            s.due("on all places", terms, 15);
        });
        s.promise(8, "UNKNOWN if there is no such curve", () ->
            s.curves("put", k -> Check.made("1:5").put(k, 1, 1, 0), 1, 2));
        s.promise(8, "OUTSIDE if (i, j) is no place, or c is not -999 to 999.", () -> {
            s.places("put", (i, j) -> new LeastCurves().put(1, i, j, -999), (i, j) -> 1);
            s.range("c", c -> new LeastCurves().put(1, 4, 0, c), OUTSIDE, -999, 1, 999, 1);
            s.due("c NONE", new LeastCurves().put(1, 4, 0, NONE), OUTSIDE);
            LeastCurves x = new LeastCurves();
            x.put(0, 0, 4, 999);
            s.due("999 is kept", x.term(0, 0, 4), 999);
            x.put(0, 0, 4, -999);
            s.due("-999 is kept", x.term(0, 0, 4), -999);
        });
    }

    private void promise9Drop() {
        s.promise(9, "Removes the term at a place.", () -> {
            LeastCurves x = Check.made("0:1,2+x,3+y;1:4+x");
            x.drop(0, 1, 0);
            s.due("it is gone", x.term(0, 1, 0), NONE);
            s.due("its neighbour is not", x.term(0, 0, 1), 3);
            s.due("the other curve's is not", x.term(1, 1, 0), 4);
        });
        s.promise(9, "@return how many terms are left", () -> {
            LeastCurves x = withAllPlaces((i, j) -> 0);
            x.put(1, 0, 0, 0);
            int left = 15;
            for (int i = 0; i <= 4; i++) {
                for (int j = 0; i + j <= 4; j++) {
                    left--;
                    s.due("drop", x.drop(0, i, j), left);
                }
            }
            s.due("none at last", left, 0);
        });
        s.promise(9, "UNKNOWN if there is no such curve", () ->
            s.curves("drop", k -> Check.made("0:1;1:2,x").drop(k, 0, 0), 0, 1));
        s.promise(9, "OUTSIDE if (i, j) is no place", () ->
            s.places("drop", (i, j) -> withAllPlaces((a, b) -> 9).drop(0, i, j), (i, j) -> 14));
        s.promise(9, "NOT if there is no term.", () -> {
            LeastCurves x = Check.made("0:1;1:4+x");
            s.due("there is none", x.drop(0, 1, 0), NOT);
            s.due("there is one", x.drop(0, 0, 0), 0);
            s.due("there is none any more", x.drop(0, 0, 0), NOT);
            s.due("a curve without terms", new LeastCurves().drop(1, 4, 0), NOT);
        });
    }

    private void promise10Move() {
        s.promise(10, "Moves a curve by (dx, dy): each c decreases by i dx + j dy.", () -> {
            LeastCurves x = Check.made("0:0,x,y;1:7+x");
            x.move(0, 3, -4);
            s.row("the vertex", w -> x.corner(0, 0, w), 3, 1, -4, 1);
            s.due("c at (0, 0)", x.term(0, 0, 0), 0);
            s.due("c at (1, 0)", x.term(0, 1, 0), -3);
            s.due("c at (0, 1)", x.term(0, 0, 1), 4);
            s.due("the other curve stays", x.term(1, 1, 0), 7);
            LeastCurves y = Check.made("0:100+3x+y,4x,1+2x+2y");
            y.move(0, 99, -99);
            s.due("c at (3, 1)", y.term(0, 3, 1), 100 - 198);
            s.due("c at (4, 0)", y.term(0, 4, 0), -396);
            s.due("c at (2, 2)", y.term(0, 2, 2), 1);
        });
        s.promise(10, "@return how many terms have another c than before", () -> {
            s.due("never the one at (0, 0)", Check.made("0:1,x,y").move(0, 5, 5), 2);
            s.due("not (1, 0) if dx is 0", Check.made("0:1,x,y").move(0, 0, 5), 1);
            s.due("not (0, 1) if dy is 0", Check.made("0:1,x,y").move(0, 5, 0), 1);
            s.due("not (1, 1) if dx + dy is 0", Check.made("0:x+y,2x,2y").move(0, 5, -5), 2);
            s.due("not (1, 2) if dx is -2 dy", Check.made("0:x+2y,2x+y").move(0, -2, 1), 1);
            s.due("none by (0, 0)", withAllPlaces((i, j) -> 7).move(0, 0, 0), 0);
            s.due("all but one", withAllPlaces((i, j) -> 7).move(0, 1, 1), 14);
            s.due("of a curve without terms", new LeastCurves().move(0, 1, 1), 0);
        });
        s.promise(10, "UNKNOWN if there is no such curve", () ->
            s.curves("move", k -> Check.made("0:x;1:x,y").move(k, 1, 1), 1, 2));
        s.promise(10, "OUTSIDE if dx or dy is not -99 to 99", () -> {
            s.range("dx", d -> Check.made("0:x,0").move(0, d, 0), OUTSIDE, -99, 1, 99, 1);
            s.range("dy", d -> Check.made("0:4y,0").move(0, 0, d), OUTSIDE, -99, 1, 99, 1);
            s.due("both", Check.made("0:x").move(0, 99, -99), 1);
        });
    }

    private void promise10MoveNotPossible() {
        s.promise(10, "NOT if some c would not be -999 to 999.", () -> {
            s.due("up to 999", Check.made("0:900+x").move(0, -99, 0), 1);
            s.due("up to 1000", Check.made("0:901+x").move(0, -99, 0), NOT);
            s.due("down to -999", Check.made("0:-603+4y").move(0, 0, 99), 1);
            s.due("down to -1000", Check.made("0:-604+4y").move(0, 0, 99), NOT);
            s.due("999 stays 999", Check.made("0:999").move(0, 99, 99), 0);
            s.due("999 at (1, 1) stays 999", Check.made("0:999+x+y,3x").move(0, 99, -99), 1);
            s.due("the last one of some", Check.made("0:0,x,y,4x,999+4y").move(0, 0, -1), NOT);
            s.due("the first one of some", Check.made("0:-999+y,x,2x,3x").move(0, 0, 1), NOT);
            LeastCurves x = Check.made("0:900+x,-999+4y");
            s.due("both at the bounds", x.move(0, -99, 0), 1);
            s.due("c then", x.term(0, 1, 0), 999);
        });
    }

    private void promise11Mirror() {
        s.promise(11, "Mirrors a curve: each term at (i, j) comes to (j, i).", () -> {
            LeastCurves x = withAllPlaces((i, j) -> 10 * i + j);
            x.put(1, 1, 0, 5);
            x.mirror(0);
            s.places("the term", (i, j) -> x.term(0, i, j), (i, j) -> 10 * j + i);
            s.due("the other curve stays", x.term(1, 1, 0), 5);
            x.mirror(1);
            s.due("only what this curve has", x.count(1, 0), 1);
            s.due("comes to (0, 1)", x.term(1, 0, 1), 5);
            LeastCurves y = Check.made("0:7+4x");
            y.mirror(0);
            s.due("it is there", y.term(0, 0, 4), 7);
            s.due("and no more where it was", y.term(0, 4, 0), NONE);
        });
        s.promise(11, "@return how many terms are at another place than before", () -> {
            s.due("all places but (0, 0), (1, 1) and (2, 2)", withAllPlaces((i, j) -> 0).mirror(0), 12);
            s.due("two that change places, with the same c", Check.made("0:x,y").mirror(0), 2);
            s.due("one", Check.made("0:3x+y").mirror(0), 1);
            s.due("those with i = j stay", Check.made("0:0,x+y,2x+2y").mirror(0), 0);
            s.due("of a curve without terms", new LeastCurves().mirror(0), 0);
        });
        s.promise(11, "UNKNOWN if there is no such curve.", () ->
            s.curves("mirror", k -> Check.made("0:x;1:2x,y").mirror(k), 1, 2));
    }

    private void promise12Join() {
        s.promise(12, "Makes a curve the minimum of both curves: at each place where at least one of the curves has a term, "
            + "it has a term then, with the smaller c if both have one.", () -> {
            for (int curve = 0; curve < 2; curve++) {
                LeastCurves x = Check.made("0:1,5+x,7+2x,8+3x;1:2,4+x,9+y,8+3x");
                x.join(curve);
                s.due("both, the first is smaller", x.term(curve, 0, 0), 1);
                s.due("both, the second is smaller", x.term(curve, 1, 0), 4);
                s.due("both, neither is smaller", x.term(curve, 3, 0), 8);
                s.due("only the first", x.term(curve, 2, 0), 7);
                s.due("only the second", x.term(curve, 0, 1), 9);
                s.due("neither", x.term(curve, 4, 0), NONE);
            }
            LeastCurves only1 = Check.made("1:0");
            only1.join(0);
            s.due("only the second, at (0, 0)", only1.term(0, 0, 0), 0);
            LeastCurves all = withAllPlaces((i, j) -> 10 * i - j);
            all.join(1);
            s.places("only the first", (i, j) -> all.term(1, i, j), (i, j) -> 10 * i - j);
            all.move(1, 3, 2);
            all.join(0);
            s.places("both, the second is smaller", (i, j) -> all.term(0, i, j), (i, j) -> 7 * i - 3 * j);
            LeastCurves all1 = new LeastCurves();
            for (int k = 0; k < 21; k++) {
                all1.put(1, k / 5, k % 5, k);
            }
            all1.join(0);
            s.places("only the second", (i, j) -> all1.term(0, i, j), (i, j) -> 5 * i + j);
            LeastCurves far = Check.made("0:-999,999+x;1:999,-999+x");
            far.join(0);
            s.due("the bounds: (0, 0)", far.term(0, 0, 0), -999);
            s.due("the bounds: (1, 0)", far.term(0, 1, 0), -999);
        });
        s.promise(12, "The other curve stays.", () -> {
            LeastCurves x = Check.made("0:1,5+x;1:2,4+x,9+y");
            x.join(0);
            s.due("c of 1 at (0, 0)", x.term(1, 0, 0), 2);
            s.due("terms of 1", x.count(1, 0), 3);
            LeastCurves y = Check.made("0:1,5+x;1:2,4+x,9+y");
            y.join(1);
            s.due("c of 0 at (1, 0)", y.term(0, 1, 0), 5);
            s.due("terms of 0", y.count(0, 0), 2);
        });
        s.promise(12, "@return how many terms the curve has then", () -> {
            s.due("no place in common", Check.made("0:1,x;1:y,2y,3y").join(0), 5);
            s.due("all in common", Check.made("0:1,x;1:x,2").join(1), 2);
            s.due("the other has none", Check.made("0:1,x").join(0), 2);
            s.due("the curve has none", Check.made("0:1,x").join(1), 2);
            s.due("both have none", new LeastCurves().join(0), 0);
            s.due("all places", withAllPlaces((i, j) -> 3).join(1), 15);
        });
        s.promise(12, "UNKNOWN if there is no such curve.", () ->
            s.curves("join", k -> Check.made("0:x;1:2x,y").join(k), 3, 3));
    }

    private void promise13Times() {
        s.promise(13, "Makes a curve the product of both curves: for each term of curve 0 and each term of curve 1 there is a term, "
            + "whose i, j and c are the sums of those of both;", () -> {
            for (int curve = 0; curve < 2; curve++) {
                LeastCurves x = Check.made("0:1,5+2x;1:20,30+y,-4+2y");
                s.due("two and three", x.times(curve), 6);
                s.due("(0, 0)", x.term(curve, 0, 0), 21);
                s.due("(0, 1)", x.term(curve, 0, 1), 31);
                s.due("(0, 2)", x.term(curve, 0, 2), -3);
                s.due("(2, 0)", x.term(curve, 2, 0), 25);
                s.due("(2, 1)", x.term(curve, 2, 1), 35);
                s.due("(2, 2)", x.term(curve, 2, 2), 1);
                s.due("(1, 0)", x.term(curve, 1, 0), NONE);
                Check.write(x, "0:1+x;1:2+y").curves();
                s.due("one and one", x.times(curve), 1);
                s.due("(1, 1)", x.term(curve, 1, 1), 3);
            }
        });
        s.promise(13, "of several at the same place the one with the smallest c is taken.", () -> {
            LeastCurves x = Check.made("0:1,5+x;1:2,3+x");
            x.times(0);
            s.due("4 before 7", x.term(0, 1, 0), 4);
            LeastCurves y = Check.made("0:5,1+x;1:2,8+x");
            y.times(1);
            s.due("3 behind 13", y.term(1, 1, 0), 3);
            LeastCurves z = Check.made("0:9,1+x,9+2x;1:9,1+x,9+2x");
            z.times(1);
            s.due("18, 2 and 18", z.term(1, 2, 0), 2);
        });
        s.promise(13, "The other curve stays.", () -> {
            LeastCurves x = Check.made("0:1,5+x;1:2,3+y");
            x.times(0);
            s.due("terms of 1", x.count(1, 0), 2);
            s.due("c of 1", x.term(1, 0, 1), 3);
            LeastCurves y = Check.made("0:1,5+x;1:2,3+y");
            y.times(1);
            s.due("terms of 0", y.count(0, 0), 2);
            s.due("c of 0", y.term(0, 1, 0), 5);
        });
        s.promise(13, "@return how many terms the curve has then", () -> {
            s.due("one and one", Check.made("0:4x;1:5").times(0), 1);
            s.due("two and two, all apart", Check.made("0:0,x;1:0,y").times(0), 4);
            s.due("two and two, two at the same place", Check.made("0:0,x;1:0,x").times(0), 3);
            s.due("all places", Check.made("0:0,x,y,2x,x+y,2y;1:0,x,y,2x,x+y,2y").times(1), 15);
        });
        s.promise(13, "UNKNOWN if there is no such curve", () ->
            s.curves("times", k -> Check.made("0:0,x;1:0,x,y").times(k), 5, 5));
    }

    /** A product of two single terms for each two places. */
    private void eachTwoPlaces() {
        for (int place = 0; place < 21 * 21; place++) {
            int a = place / 21;
            int b = place % 21;
            if (a / 5 + a % 5 <= 4 && b / 5 + b % 5 <= 4) {
                LeastCurves x = new LeastCurves();
                x.put(0, a / 5, a % 5, 3);
                x.put(1, b / 5, b % 5, 4);
                int i = a / 5 + b / 5;
                int j = a % 5 + b % 5;
                s.due("times() of the places " + a + " and " + b, x.times(0), i + j <= 4 ? 1 : NOT);
                s.due("c at the sum of the places " + a + " and " + b, x.term(0, i, j), i + j <= 4 ? 7 : OUTSIDE);
            }
        }
    }

    private void promise13TimesNotPossible() {
        s.promise(13, "NOT if a curve has no terms", () -> {
            s.due("curve 1 has none", Check.made("0:1").times(0), NOT);
            s.due("curve 1 has none, times(1)", Check.made("0:1").times(1), NOT);
            s.due("curve 0 has none", Check.made("1:1").times(0), NOT);
            s.due("curve 0 has none, times(1)", Check.made("1:1").times(1), NOT);
            s.due("both have none", new LeastCurves().times(0), NOT);
            s.due("each has one", Check.made("0:1;1:1").times(0), 1);
        });
        s.promise(13, "if one of these sums (i, j) is no place", () -> {
            s.due("i = 4", Check.made("0:2x;1:2x").times(0), 1);
            s.due("i = 5", Check.made("0:3x;1:2x").times(0), NOT);
            s.due("j = 4", Check.made("0:4y;1:0").times(0), 1);
            s.due("j = 5", Check.made("0:4y;1:y").times(0), NOT);
            s.due("i + j = 4", Check.made("0:x+y;1:x+y").times(0), 1);
            s.due("i + j = 5", Check.made("0:x+y;1:x+2y").times(0), NOT);
            s.due("i + j = 8", Check.made("0:4x;1:4y").times(0), NOT);
            s.due("only the last one", Check.made("0:0,x,3x;1:0,y,2y").times(0), NOT);
            s.due("only the first one", Check.made("0:4y,0;1:y,0").times(1), NOT);
            eachTwoPlaces();
        });
        s.promise(13, "or if the c of a term that is taken is not -999 to 999.", () -> {
            s.due("999", Check.made("0:500;1:499").times(0), 1);
            s.due("1000", Check.made("0:500;1:500").times(0), NOT);
            s.due("1998", Check.made("0:999;1:999").times(0), NOT);
            s.due("-999", Check.made("0:-500;1:-499").times(0), 1);
            s.due("-1000", Check.made("0:-500;1:-500").times(0), NOT);
            s.due("-1998", Check.made("0:-999;1:-999").times(0), NOT);
            s.due("1000 not taken", Check.made("0:500,0+x;1:0,500+x").times(0), 3);
            s.due("1000 not taken, the smaller one first", Check.made("0:0,500+x;1:500,0+x").times(0), 3);
            s.due("-1000 taken, 999 not", Check.made("0:0,-500+x;1:-500,999+x").times(1), NOT);
        });
    }
}

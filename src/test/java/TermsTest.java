/** Promises 6 to 16: the terms, what changes them, undo and the slots. */
public final class TermsTest {
    private static final int NONE = -1000000, UNKNOWN = -1000001, OUTSIDE = -1000002, NOT = -1000003;
    private static final int MOST = Integer.MAX_VALUE, LEAST = Integer.MIN_VALUE;
    private static final Check check = new Check();

    public static void main(String[] args) {
        term();
        value();
        put();
        drop();
        move();
        mirror();
        join();
        times();
        undoOfEachChange();
        undoOfMany();
        failedCallsAreNoChanges();
        keepAndBack();
        check.end("TermsTest");
    }

    private static void term() {
        LeastCurves x = Check.made("0:7+4x,-3+2x+2y;1:5");
        check.due("term(0, 4, 0)", x.term(0, 4, 0), 7);
        check.due("term(0, 2, 2)", x.term(0, 2, 2), -3);
        check.due("term(0, 0, 0)", x.term(0, 0, 0), NONE);
        check.due("term(1, 0, 0)", x.term(1, 0, 0), 5);
        check.due("term(-1, ..)", x.term(-1, 0, 0), UNKNOWN);
        check.due("term(2, ..)", x.term(2, 0, 0), UNKNOWN);
        check.due("UNKNOWN comes first", x.term(2, 5, 5), UNKNOWN);
        check.due("term(0, 5, 0)", x.term(0, 5, 0), OUTSIDE);
        check.due("term(0, 0, 5)", x.term(0, 0, 5), OUTSIDE);
        check.due("term(0, 1, 4)", x.term(0, 1, 4), OUTSIDE);
        check.due("term(0, -1, 0)", x.term(0, -1, 0), OUTSIDE);
        check.due("term(0, 1, -1)", x.term(0, 1, -1), OUTSIDE);
        check.due("term(0, MOST, MOST)", x.term(0, MOST, MOST), OUTSIDE);
        check.due("term(0, LEAST, LEAST)", x.term(0, LEAST, LEAST), OUTSIDE);
        check.due("term(0, LEAST, 4)", x.term(0, LEAST, 4), OUTSIDE);
    }

    private static void value() {
        LeastCurves x = Check.made("0:6,x,y,4+2x");
        check.due("value at (6, 6)", x.value(0, 6, 6, 1, 0), 6);
        check.due("leading set at (6, 6)", x.value(0, 6, 6, 1, 1), 1 | 1 << 5 | 1 << 1);
        check.due("value at (-4, -4)", x.value(0, -4, -4, 1, 0), -4);
        check.due("leading set at (-4, -4)", x.value(0, -4, -4, 1, 1), 1 << 10 | 1 << 5 | 1 << 1);
        check.due("value at (-9/2, 5/2)", x.value(0, -9, 5, 2, 0), -10);
        check.due("leading set at (-9/2, 5/2)", x.value(0, -9, 5, 2, 1), 1 << 10);
        check.due("value with d not in lowest terms", x.value(0, 360, 360, 60, 0), 360);
        check.due("the greatest x", x.value(0, 9999, 9999, 60, 1), 1);
        check.due("the least x", x.value(0, -9999, -9999, 1, 0), 4 - 2 * 9999);
        check.due("UNKNOWN comes first", x.value(2, 10000, 0, 0, 5), UNKNOWN);
        check.due("no curve -1", x.value(-1, 0, 0, 1, 0), UNKNOWN);
        check.due("x too great", x.value(0, 10000, 0, 1, 0), OUTSIDE);
        check.due("x too small", x.value(0, -10000, 0, 1, 0), OUTSIDE);
        check.due("y too great", x.value(0, 0, 10000, 1, 0), OUTSIDE);
        check.due("y too small", x.value(0, 0, -10000, 1, 0), OUTSIDE);
        check.due("y LEAST", x.value(0, 0, LEAST, 1, 0), OUTSIDE);
        check.due("d 0", x.value(0, 0, 0, 0, 0), OUTSIDE);
        check.due("d 61", x.value(0, 0, 0, 61, 0), OUTSIDE);
        check.due("what 2", x.value(0, 0, 0, 1, 2), OUTSIDE);
        check.due("what -1", x.value(0, 0, 0, 1, -1), OUTSIDE);
        check.due("OUTSIDE comes before NOT", x.value(1, 0, 0, 1, 2), OUTSIDE);
        check.due("no terms", x.value(1, 0, 0, 1, 0), NOT);
        x = Check.made("1:-999+4x,999+4y");
        check.due("all at the bounds", x.value(1, -9999, 9999, 60, 0), -999 * 60 - 4 * 9999);
        check.due("all at the other bounds", x.value(1, 9999, -9999, 60, 0), Math.min(999 * 60 - 4 * 9999, -999 * 60 + 4 * 9999));
    }

    private static void put() {
        LeastCurves x = new LeastCurves();
        check.due("put", x.put(1, 2, 2, 999), 1);
        check.due("put at the same place", x.put(1, 2, 2, -999), 1);
        check.due("term then", x.term(1, 2, 2), -999);
        check.due("put at another", x.put(1, 4, 0, 0), 2);
        check.due("the other curve stays", x.count(0, 0), 0);
        check.due("no curve 2", x.put(2, 9, 9, 9999), UNKNOWN);
        check.due("no curve -1", x.put(-1, 0, 0, 0), UNKNOWN);
        check.due("no place", x.put(0, 3, 2, 0), OUTSIDE);
        check.due("no place, i and j the greatest", x.put(0, MOST, MOST, 0), OUTSIDE);
        check.due("c 1000", x.put(0, 0, 0, 1000), OUTSIDE);
        check.due("c -1000", x.put(0, 0, 0, -1000), OUTSIDE);
        check.due("c NONE", x.put(0, 0, 0, NONE), OUTSIDE);
        check.due("nothing was put", x.count(0, 0), 0);
        int terms = 0;
        for (int i = 4; i >= 0; i--) {
            for (int j = 4 - i; j >= 0; j--) {
                terms++;
                check.due("put on every place", x.put(0, i, j, i * 10 + j), terms);
            }
        }
        check.due("15 places", terms, 15);
        check.due("term of (1, 3)", x.term(0, 1, 3), 13);
    }

    private static void drop() {
        LeastCurves x = Check.made("0:1,x,y");
        check.due("drop", x.drop(0, 1, 0), 2);
        check.due("drop again", x.drop(0, 1, 0), NOT);
        check.due("term then", x.term(0, 1, 0), NONE);
        check.due("drop of the other curve", x.drop(1, 0, 0), NOT);
        check.due("no curve", x.drop(2, 9, 9), UNKNOWN);
        check.due("no curve -1", x.drop(-1, 0, 0), UNKNOWN);
        check.due("no place", x.drop(0, 0, 5), OUTSIDE);
        check.due("no place below 0", x.drop(0, 0, -1), OUTSIDE);
        check.due("drop the next", x.drop(0, 0, 1), 1);
        check.due("drop the last", x.drop(0, 0, 0), 0);
    }

    private static void move() {
        LeastCurves x = Check.made("0:5,5+x,5+y,5+2x+y");
        check.due("move", x.move(0, 2, -3), 3);
        check.due("at (0, 0)", x.term(0, 0, 0), 5);
        check.due("at (1, 0)", x.term(0, 1, 0), 3);
        check.due("at (0, 1)", x.term(0, 0, 1), 8);
        check.due("at (2, 1)", x.term(0, 2, 1), 4);
        check.due("move by (1, -2) leaves (2, 1)", x.move(0, 1, -2), 2);
        check.due("move by nothing", x.move(0, 0, 0), 0);
        check.due("no term moves", x.move(1, 99, 99), 0);
        check.due("no curve", x.move(2, 100, 100), UNKNOWN);
        check.due("no curve -1", x.move(-1, 0, 0), UNKNOWN);
        check.due("dx 100", x.move(0, 100, 0), OUTSIDE);
        check.due("dx -100", x.move(0, -100, 0), OUTSIDE);
        check.due("dy 100", x.move(0, 0, 100), OUTSIDE);
        check.due("dy -100", x.move(0, 0, -100), OUTSIDE);
        x = Check.made("0:-999,-801+x+y,-603+4y");
        check.due("move down to the bound", x.move(0, 99, 99), 2);
        check.due("-999 is reached", x.term(0, 0, 4), -999);
        check.due("no further down", x.move(0, 0, 1), NOT);
        check.due("nothing changed", x.term(0, 1, 1), -999);
        check.due("up", x.move(0, 0, -1), 2);
        x = Check.made("1:999+4x,-999+y");
        check.due("no further up", x.move(1, -1, 0), NOT);
        check.due("the other not further down", x.move(1, 1, 1), NOT);
        check.due("nothing changed", x.term(1, 4, 0), 999);
        check.due("away from the bounds", x.move(1, 99, -99), 2);
    }

    private static void mirror() {
        LeastCurves x = Check.made("0:1,2+2x+2y,3+3x+y,4+x+3y,5+4y");
        check.due("mirror", x.mirror(0), 3);
        check.due("(0, 0)", x.term(0, 0, 0), 1);
        check.due("(2, 2)", x.term(0, 2, 2), 2);
        check.due("(1, 3)", x.term(0, 1, 3), 3);
        check.due("(3, 1)", x.term(0, 3, 1), 4);
        check.due("(4, 0)", x.term(0, 4, 0), 5);
        check.due("(0, 4)", x.term(0, 0, 4), NONE);
        check.due("no terms", x.mirror(1), 0);
        check.due("no curve", x.mirror(2), UNKNOWN);
        check.due("no curve -1", x.mirror(-1), UNKNOWN);
    }

    private static void join() {
        LeastCurves x = Check.made("0:1,5+x,7+2x;1:2,4+x,9+y");
        check.due("join(0)", x.join(0), 4);
        check.due("the first is smaller", x.term(0, 0, 0), 1);
        check.due("the second is smaller", x.term(0, 1, 0), 4);
        check.due("only in the first", x.term(0, 2, 0), 7);
        check.due("only in the second", x.term(0, 0, 1), 9);
        check.due("the other stays", x.count(1, 0), 3);
        check.due("the other's (0, 0)", x.term(1, 0, 0), 2);
        check.due("join(1)", x.join(1), 4);
        check.due("now alike", x.term(1, 0, 0), 1);
        check.due("join(2)", x.join(2), UNKNOWN);
        check.due("join(-1)", x.join(-1), UNKNOWN);
        check.due("both empty", new LeastCurves().join(1), 0);
        x = Check.made("0:1,x");
        check.due("the one is empty", x.join(1), 2);
    }

    private static void times() {
        LeastCurves x = Check.made("0:1,5+x;1:2,3+x,-4+y");
        check.due("times(1)", x.times(1), 5);
        check.due("(0, 0)", x.term(1, 0, 0), 3);
        check.due("(1, 0) is the smaller of 4 and 7", x.term(1, 1, 0), 4);
        check.due("(2, 0)", x.term(1, 2, 0), 8);
        check.due("(0, 1)", x.term(1, 0, 1), -3);
        check.due("(1, 1)", x.term(1, 1, 1), 1);
        check.due("the other stays", x.count(0, 0), 2);
        check.due("times(2)", x.times(2), UNKNOWN);
        check.due("times(-1)", x.times(-1), UNKNOWN);
        x.join(0);
        x.mirror(1);
        check.due("mirror makes no more", x.count(1, 0), 5);
        x.drop(0, 1, 0);
        x.drop(0, 2, 0);
        x.drop(0, 0, 1);
        x.drop(0, 1, 1);
        check.due("times a number", x.times(1), 5);
        check.due("(0, 1) is 4 + 1 then", x.term(1, 0, 1), 5);
        check.due("no terms in 1", Check.made("0:1").times(0), NOT);
        check.due("no terms in 0", Check.made("1:1").times(0), NOT);
        check.due("no place", Check.made("0:2x+y;1:2y").times(0), NOT);
        check.due("j above 4", Check.made("0:3y;1:2y").times(0), NOT);
        check.due("degree 4", Check.made("0:2x;1:2y").times(0), 1);
        check.due("c 1000", Check.made("0:999;1:1").times(0), NOT);
        check.due("c 999", Check.made("0:999;1:0").times(0), 1);
        check.due("c -1000", Check.made("0:-999;1:-1,x").times(1), NOT);
        check.due("c -999", Check.made("0:-998;1:-1").times(1), 1);
        x = Check.made("0:999,0+x;1:0,999+x");
        check.due("a c that is not taken may be too great", x.times(0), 3);
        check.due("the one taken", x.term(0, 1, 0), 0);
        x = Check.made("0:999,1+x;1:1,999+x");
        check.due("a c that is taken may not", x.times(0), NOT);
        check.due("nothing changed", x.count(0, 0) + x.tally(5), 2);
    }

    private static void undoOfEachChange() {
        LeastCurves x = Check.made("0:1,5+x;1:2,3+x,-4+y");
        String[] were = new String[7];
        were[0] = State.terms(x);
        x.put(0, 2, 0, 8);
        were[1] = State.terms(x);
        x.drop(1, 1, 0);
        were[2] = State.terms(x);
        x.move(0, 3, 3);
        were[3] = State.terms(x);
        x.mirror(1);
        were[4] = State.terms(x);
        x.join(1);
        were[5] = State.terms(x);
        x.times(0);
        were[6] = State.terms(x);
        for (int k = 6; k > 0; k--) {
            check.due("before undo " + k, State.terms(x).equals(were[k]) ? 1 : 0, 1);
            check.due("undo()", x.undo(), k - 1);
        }
        check.due("as at first", State.terms(x).equals(were[0]) ? 1 : 0, 1);
        check.due("undo() of nothing", x.undo(), NOT);
        check.due("tally(5)", x.tally(5), 0);
    }

    private static void undoOfMany() {
        LeastCurves x = new LeastCurves();
        for (int c = 1; c <= 12; c++) {
            x.put(0, 0, 0, c);
            check.due("changes", x.tally(5), Math.min(c, 8));
        }
        for (int left = 7; left >= 3; left--) {
            check.due("undo()", x.undo(), left);
            check.due("c then", x.term(0, 0, 0), 5 + left - 1);
        }
        x.put(0, 0, 0, 50);
        check.due("one more", x.tally(5), 4);
        x.mirror(0);
        x.move(1, 0, 0);
        check.due("changes that change nothing count too", x.tally(5), 6);
        check.due("undo()", x.undo(), 5);
        check.due("undo()", x.undo(), 4);
        check.due("c is still", x.term(0, 0, 0), 50);
        check.due("undo()", x.undo(), 3);
        check.due("c then", x.term(0, 0, 0), 7);
        check.due("undo()", x.undo(), 2);
        check.due("undo()", x.undo(), 1);
        check.due("undo()", x.undo(), 0);
        check.due("the oldest", x.term(0, 0, 0), 4);
        check.due("undo()", x.undo(), NOT);
        check.due("and it stays", x.term(0, 0, 0), 4);
    }

    private static void failedCallsAreNoChanges() {
        LeastCurves x = Check.made("0:999,999+x;1:4x");
        x.put(2, 0, 0, 0);
        x.put(0, 5, 0, 0);
        x.put(0, 0, 0, 1000);
        x.drop(0, 2, 0);
        x.move(0, -1, 0);
        x.move(0, 100, 0);
        x.mirror(2);
        x.join(2);
        x.times(0);
        x.undo();
        check.due("none of them counts", x.tally(5), 0);
        check.due("terms", x.count(0, 0), 2);
    }

    private static void keepAndBack() {
        LeastCurves x = Check.made("0:1,x;1:2+y");
        check.due("keep(2)", x.keep(2), OUTSIDE);
        check.due("keep(-1)", x.keep(-1), OUTSIDE);
        check.due("back(0) of nothing", x.back(0), NOT);
        check.due("back(2)", x.back(2), OUTSIDE);
        check.due("back(-1)", x.back(-1), OUTSIDE);
        check.due("keep(0)", x.keep(0), 3);
        check.due("back(1) of nothing", x.back(1), NOT);
        x.put(0, 4, 0, 9);
        x.drop(1, 0, 1);
        check.due("keep(1)", x.keep(1), 3);
        check.due("keep changes no changes", x.tally(5), 2);
        check.due("a failed back too", x.back(2), OUTSIDE);
        check.due("changes", x.tally(5), 2);
        check.due("back(0)", x.back(0), 3);
        check.due("no change is left", x.tally(5), 0);
        check.due("undo()", x.undo(), NOT);
        check.due("(4, 0)", x.term(0, 4, 0), NONE);
        check.due("curve 1", x.term(1, 0, 1), 2);
        x.put(0, 0, 0, 77);
        check.due("the slot keeps its terms", x.back(0), 3);
        check.due("at (0, 0)", x.term(0, 0, 0), 1);
        check.due("back(1)", x.back(1), 3);
        check.due("(4, 0) there", x.term(0, 4, 0), 9);
        x.drop(0, 4, 0);
        check.due("keep(1) in place of the other", x.keep(1), 2);
        x.put(0, 4, 0, 9);
        check.due("back(1)", x.back(1), 2);
        check.due("an empty pair can be kept", new LeastCurves().keep(0), 0);
        x = new LeastCurves();
        x.keep(1);
        x.put(0, 0, 0, 0);
        check.due("and come back", x.back(1), 0);
    }
}

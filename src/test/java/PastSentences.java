import java.util.function.Consumer;

/** Promises 14 to 16: what is undone, saved and restored. */
final class PastSentences {
    private static final int NONE = Sentences.NONE, OUTSIDE = Sentences.OUTSIDE, NOT = Sentences.NOT;

    private final Sentences s;

    PastSentences(Sentences s) {
        this.s = s;
    }

    void all() {
        undoesEachCall();
        undoesTheLatest();
        remembersEight();
        promise14Undo();
        promise15Keep();
        promise16Back();
        promise16BackForgets();
    }

    private void undone(String call, Consumer<LeastCurves> change) {
        LeastCurves x = Check.made("0:1,5+x,6+2y;1:2,3+x,-4+y");
        String before = State.terms(x);
        change.accept(x);
        s.holds(call + " changes the terms", !State.terms(x).equals(before));
        s.due(call + " is undone", x.undo(), 0);
        s.holds("the terms are as before " + call, State.terms(x).equals(before));
        s.due("nothing is left", x.undo(), NOT);
    }

    private void undoesEachCall() {
        s.promise(14, "Undoes the latest successful call of put(), drop(), move(), mirror(), join() or times()", () -> {
            for (int k = 0; k < 2; k++) {
                int curve = k;
                undone("put() at a new place", x -> x.put(curve, 3, 1, 8));
                undone("put() instead of a term", x -> x.put(curve, 0, 0, 8));
                undone("drop()", x -> x.drop(curve, 1, 0));
                undone("move()", x -> x.move(curve, 1, 2));
                undone("mirror()", x -> x.mirror(curve));
                undone("join()", x -> x.join(curve));
                undone("times()", x -> x.times(curve));
            }
        });
    }

    private void undoesTheLatest() {
        s.promise(14, "the latest successful call", () -> {
            LeastCurves x = Check.made("0:1,x;1:2");
            x.put(0, 0, 0, 5);
            x.put(1, 0, 0, 6);
            x.put(0, 5, 0, 7);
            x.drop(1, 1, 1);
            x.move(2, 1, 1);
            x.erase();
            x.keep(1);
            s.due("what fails, and what changes no terms, is not undone", x.undo(), 1);
            s.due("c of curve 1", x.term(1, 0, 0), 2);
            s.due("c of curve 0", x.term(0, 0, 0), 5);
            s.due("then the one before", x.undo(), 0);
            s.due("c of curve 0", x.term(0, 0, 0), 1);
        });
        s.promise(14, "that has not been undone", () -> {
            LeastCurves x = Check.made("0:1");
            x.put(0, 0, 0, 2);
            x.put(0, 0, 0, 3);
            x.undo();
            x.put(0, 0, 0, 4);
            s.due("4 is undone", x.undo(), 1);
            s.due("c", x.term(0, 0, 0), 2);
            s.due("not 3 once more, but 2", x.undo(), 0);
            s.due("c", x.term(0, 0, 0), 1);
            s.due("no undoing is undone", x.undo(), NOT);
            s.due("c", x.term(0, 0, 0), 1);
        });
        s.promise(14, "(also one that changed nothing)", () -> {
            LeastCurves x = Check.made("0:1;1:1");
            x.put(0, 0, 0, 2);
            x.put(0, 0, 0, 2);
            x.move(0, 0, 0);
            x.move(1, 5, 5);
            x.mirror(0);
            x.join(1);
            s.due("six changes", x.tally(5), 6);
            for (int left = 5; left >= 1; left--) {
                s.due("undo()", x.undo(), left);
                s.due("c", x.term(0, 0, 0), 2);
            }
            s.due("the first put()", x.undo(), 0);
            s.due("c", x.term(0, 0, 0), 1);
            LeastCurves y = Check.made("0:0;1:0");
            s.due("times() by 0", y.times(0), 1);
            s.due("can be undone", y.undo(), 0);
        });
    }

    private static LeastCurves afterPuts(int many) {
        LeastCurves x = Check.made("0:0");
        for (int c = 1; c <= many; c++) {
            x.put(0, 0, 0, c);
        }
        return x;
    }

    private void remembersEight() {
        s.promise(14, "the latest 8 of them are remembered.", () -> {
            for (int many = 7; many <= 17; many++) {
                LeastCurves x = afterPuts(many);
                int most = Math.min(many, 8);
                s.due("changes after " + many, x.tally(5), most);
                for (int left = most - 1; left >= 0; left--) {
                    s.due("undo() after " + many, x.undo(), left);
                    s.due("c after " + many, x.term(0, 0, 0), many - most + left);
                }
                s.due("undo() too often after " + many, x.undo(), NOT);
                s.due("c in the end after " + many, x.term(0, 0, 0), many - most);
            }
            LeastCurves y = afterPuts(8);
            y.undo();
            y.put(0, 0, 0, 99);
            s.due("one undone and one more are still 8", y.tally(5), 8);
            y.put(0, 0, 0, 100);
            s.due("and one more too", y.tally(5), 8);
            for (int left = 7; left >= 0; left--) {
                s.due("undo()", y.undo(), left);
            }
            s.due("the first one is forgotten", y.term(0, 0, 0), 1);
        });
    }

    private void promise14Undo() {
        s.promise(14, "@return how many more can be undone then;", () -> {
            s.due("of one", afterPuts(1).undo(), 0);
            s.due("of two", afterPuts(2).undo(), 1);
            s.due("of eight", afterPuts(8).undo(), 7);
            s.due("of nine", afterPuts(9).undo(), 7);
        });
        s.promise(14, "NOT if there is none.", () -> {
            s.due("at first", new LeastCurves().undo(), NOT);
            s.due("behind curves()", Check.made("0:1").undo(), NOT);
            LeastCurves x = afterPuts(1);
            s.due("one", x.undo(), 0);
            s.due("none any more", x.undo(), NOT);
            x.put(0, 0, 0, 1);
            s.due("one again", x.undo(), 0);
        });
    }

    private static LeastCurves withAllPlaces() {
        LeastCurves x = new LeastCurves();
        for (int i = 0; i <= 4; i++) {
            for (int j = 0; i + j <= 4; j++) {
                x.put(0, i, j, 10 * i + j);
                x.put(1, i, j, -10 * i - j);
            }
        }
        return x;
    }

    private void promise15Keep() {
        s.promise(15, "Saves the terms of both curves in slot k, in place of what it had.", () -> {
            LeastCurves x = Check.made("0:1,x;1:2+y");
            x.keep(0);
            String first = State.terms(x);
            x.put(0, 4, 0, 9);
            x.drop(1, 0, 1);
            x.keep(1);
            String second = State.terms(x);
            x.put(1, 2, 2, 9);
            x.back(0);
            s.holds("slot 0 has the first ones", State.terms(x).equals(first));
            x.back(1);
            s.holds("slot 1 has the second ones", State.terms(x).equals(second));
            x.put(0, 0, 0, 77);
            String third = State.terms(x);
            x.keep(0);
            x.put(0, 0, 0, 78);
            x.back(0);
            s.holds("slot 0 has the third ones instead", State.terms(x).equals(third));
            x.back(1);
            s.holds("slot 1 still has the second ones", State.terms(x).equals(second));
        });
        s.promise(15, "@return how many terms these are;", () -> {
            s.due("none", new LeastCurves().keep(0), 0);
            s.due("of both curves", Check.made("0:1,x;1:2+y").keep(1), 3);
            s.due("the most", withAllPlaces().keep(1), 30);
        });
        s.promise(15, "OUTSIDE if k is not 0 or 1.", () ->
            s.range("k", k -> Check.made("0:1,x").keep(k), OUTSIDE, 0, 2, 1, 2));
    }

    private void promise16Back() {
        s.promise(16, "Restores the terms that slot k has; the slot keeps them.", () -> {
            LeastCurves x = withAllPlaces();
            String kept = State.terms(x);
            x.keep(1);
            for (int round = 0; round < 2; round++) {
                x.mirror(0);
                x.drop(1, 2, 2);
                x.back(1);
                s.holds("all of them, round " + round, State.terms(x).equals(kept));
            }
            LeastCurves y = new LeastCurves();
            y.keep(0);
            y.put(1, 2, 2, 5);
            s.due("a slot can have no terms", y.back(0), 0);
            s.due("c", y.term(1, 2, 2), NONE);
        });
        s.promise(16, "@return how many terms both curves have then;", () -> {
            LeastCurves x = withAllPlaces();
            x.keep(0);
            x.drop(0, 0, 0);
            x.keep(1);
            x.drop(1, 0, 0);
            s.due("all", x.back(0), 30);
            s.due("all but one", x.back(1), 29);
            LeastCurves y = new LeastCurves();
            y.keep(0);
            s.due("none", y.back(0), 0);
        });
        s.promise(16, "OUTSIDE if k is not 0 or 1;", () -> {
            LeastCurves x = Check.made("0:1,x");
            x.keep(0);
            x.put(0, 2, 0, 0);
            x.keep(1);
            s.range("k", k -> x.back(k), OUTSIDE, 0, 2, 1, 3);
        });
    }

    private void promise16BackForgets() {
        s.promise(16, "Nothing can be undone then.", () -> {
            LeastCurves x = Check.made("0:1,x");
            x.put(0, 2, 0, 0);
            x.keep(0);
            x.put(0, 3, 0, 0);
            s.due("before", x.tally(5), 2);
            s.due("back(1) fails", x.back(1), NOT);
            s.due("and leaves them", x.tally(5), 2);
            x.back(0);
            s.due("behind it", x.tally(5), 0);
            s.due("undo()", x.undo(), NOT);
            s.due("terms", x.count(0, 0), 3);
            x.put(0, 4, 0, 0);
            s.due("a new change can be undone", x.undo(), 0);
            LeastCurves y = afterPuts(3);
            y.keep(1);
            s.due("keep() leaves them", y.tally(5), 3);
        });
        s.promise(16, "NOT if nothing was saved in it since the latest successful curves().", () -> {
            LeastCurves x = new LeastCurves();
            s.due("nothing in slot 0", x.back(0), NOT);
            s.due("nothing in slot 1", x.back(1), NOT);
            x.keep(0);
            s.due("something in slot 0", x.back(0), 0);
            s.due("still nothing in slot 1", x.back(1), NOT);
            Check.write(x, "0:1;");
            s.due("curves() fails", x.curves(), NOT);
            s.due("slot 0 still has something", x.back(0), 0);
            Check.write(x, "1:x,y");
            s.due("curves() does not fail", x.curves(), 2);
            s.due("slot 0 has nothing", x.back(0), NOT);
            s.due("slot 1 has nothing", x.back(1), NOT);
            x.keep(1);
            s.due("slot 1 has something", x.back(1), 3);
            s.due("slot 0 has nothing yet", x.back(0), NOT);
        });
    }
}

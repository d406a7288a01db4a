import java.util.function.Supplier;
import java.util.function.ToLongFunction;

/** What holds for all calls: the error codes, fractions, sets of places, and how often an object can be used. */
final class ErrorSentences {
    private static final int NONE = Sentences.NONE, UNKNOWN = Sentences.UNKNOWN, OUTSIDE = Sentences.OUTSIDE;
    private static final int NOT = Sentences.NOT, FULL = Sentences.FULL;
    private static final String ERRORS = Sentences.ERRORS;

    private final Sentences s;

    ErrorSentences(Sentences s) {
        this.s = s;
    }

    void all() {
        useOfAnObject();
        codes();
        orderOfCodesOfTerms();
        orderOfCodesOfShapes();
        nothingIsChangedByTextAndTerms();
        nothingIsChangedByPast();
        nothingIsChangedByLooking();
        noneIsNoError();
        fractions();
        sets();
    }

    /** Every call but the last is one that changes something, so that the last one sees what 511 have left. */
    private void useOfAnObject() {
        s.test(Sentences.WHAT_IT_IS, 1, "An object is used for at most 512 calls after it has been made", () -> {
            LeastCurves x = new LeastCurves();
            for (int call = 1; call <= 511; call++) {
                s.due("call " + call, x.put(0, 0, 0, call % 1000), 1);
            }
            s.due("call 512", x.term(0, 0, 0), 511);
            LeastCurves y = new LeastCurves();
            for (int call = 1; call <= 255; call++) {
                y.put(call % 2, 0, call % 3, call);
                y.mirror(call % 2);
            }
            s.due("call 511", y.undo(), 7);
            s.due("call 512", y.undo(), 6);
        });
    }

    private void codes() {
        s.test(ERRORS, 17, "Error codes: UNKNOWN (-1000001): there is no such curve, vertex, edge or intersection", () -> {
            LeastCurves x = Check.made("0:0,x,y;1:0");
            s.due("the constant", LeastCurves.UNKNOWN, -1000001);
            s.due("curve 2", x.term(2, 0, 0), -1000001);
            s.due("vertex 1 of one", x.corner(0, 1, 0), -1000001);
            s.due("vertex 0 of one", x.corner(0, 0, 4), 1);
            s.due("edge 3 of three", x.edge(0, 3, 0), -1000001);
            s.due("edge 2 of three", x.edge(0, 2, 0), 1);
            s.due("intersection 0 of none", x.meeting(0, 0), -1000001);
        });
        s.test(ERRORS, 7, "OUTSIDE (-1000002): another argument is out of range, or (i, j) is no place", () -> {
            LeastCurves x = Check.made("0:0,x,y");
            s.due("the constant", LeastCurves.OUTSIDE, -1000002);
            s.due("d 0", x.value(0, 0, 0, 0, 0), -1000002);
            s.due("d 1", x.value(0, 0, 0, 1, 0), 0);
            s.due("i + j = 5", x.term(0, 4, 1), -1000002);
            s.due("i + j = 4", x.term(0, 4, 0), -1000000);
        });
        s.test(ERRORS, 14, "NOT (-1000003): the call is not possible at present, as the method says", () -> {
            LeastCurves x = new LeastCurves();
            s.due("the constant", LeastCurves.NOT, -1000003);
            s.due("undo() of nothing", x.undo(), -1000003);
            x.put(0, 0, 0, 0);
            s.due("undo() at another time", x.undo(), 0);
        });
        s.test(ERRORS, 2, "FULL (-1000004): a limit is reached.", () -> {
            LeastCurves x = new LeastCurves();
            s.due("the constant", LeastCurves.FULL, -1000004);
            for (int k = 1; k <= 200; k++) {
                s.due("byte " + k, x.write('x'), k);
            }
            s.due("byte 201", x.write('x'), -1000004);
        });
    }

    private void order(int promise, Runnable calls) {
        s.test(ERRORS, promise, "If several of them apply to a call, the one that the method names first is returned.", calls);
    }

    private static LeastCurves line() {
        return Check.made("0:0,x,y");
    }

    private void orderOfCodesOfTerms() {
        order(2, () -> {
            LeastCurves full = Check.write(new LeastCurves(), " ".repeat(200));
            s.due("OUTSIDE before FULL", full.write(256), OUTSIDE);
            s.due("only FULL", full.write(255), FULL);
        });
        order(6, () -> {
            s.due("UNKNOWN before OUTSIDE", line().term(2, 5, 5), UNKNOWN);
            s.due("only OUTSIDE", line().term(1, 5, 5), OUTSIDE);
        });
        order(7, () -> {
            s.due("UNKNOWN before OUTSIDE", line().value(2, 10000, 0, 0, 2), UNKNOWN);
            s.due("OUTSIDE before NOT", line().value(1, 10000, 0, 1, 0), OUTSIDE);
            s.due("OUTSIDE before NOT", line().value(1, 0, 0, 1, 2), OUTSIDE);
            s.due("only NOT", line().value(1, 9999, 0, 1, 0), NOT);
        });
        order(8, () -> {
            s.due("UNKNOWN before OUTSIDE", line().put(2, 5, 5, 1000), UNKNOWN);
            s.due("only OUTSIDE", line().put(1, 5, 5, 1000), OUTSIDE);
        });
        order(9, () -> {
            s.due("UNKNOWN before OUTSIDE", line().drop(2, 5, 5), UNKNOWN);
            s.due("UNKNOWN before NOT", line().drop(2, 0, 0), UNKNOWN);
            s.due("OUTSIDE, as no place has a term", line().drop(1, 5, 0), OUTSIDE);
            s.due("only NOT", line().drop(1, 0, 0), NOT);
        });
        order(10, () -> {
            LeastCurves high = Check.made("0:999+x");
            s.due("UNKNOWN before OUTSIDE", high.move(2, 100, 100), UNKNOWN);
            s.due("OUTSIDE before NOT", high.move(0, -1, 100), OUTSIDE);
            s.due("OUTSIDE before NOT", high.move(0, -100, 0), OUTSIDE);
            s.due("only NOT", high.move(0, -1, 99), NOT);
        });
        order(13, () -> {
            s.due("UNKNOWN before NOT", line().times(2), UNKNOWN);
            s.due("UNKNOWN before NOT", line().times(-1), UNKNOWN);
            s.due("only NOT", line().times(0), NOT);
        });
        order(16, () -> {
            s.due("OUTSIDE before NOT", line().back(2), OUTSIDE);
            s.due("OUTSIDE before NOT", line().back(-1), OUTSIDE);
            s.due("only NOT", line().back(1), NOT);
        });
    }

    private void orderOfCodesOfShapes() {
        order(17, () -> {
            s.due("no curve before OUTSIDE", line().corner(2, 0, 7), UNKNOWN);
            s.due("no vertex before OUTSIDE", line().corner(0, 1, 7), UNKNOWN);
            s.due("only OUTSIDE", line().corner(0, 0, 7), OUTSIDE);
        });
        order(18, () -> {
            s.due("no curve before OUTSIDE", line().edge(2, 0, 10), UNKNOWN);
            s.due("no edge before OUTSIDE", line().edge(0, 3, 10), UNKNOWN);
            s.due("only OUTSIDE", line().edge(0, 2, 10), OUTSIDE);
        });
        order(19, () -> {
            s.due("UNKNOWN before OUTSIDE", line().region(2, 5, 5, 4), UNKNOWN);
            s.due("UNKNOWN before NOT", line().region(2, 1, 1, 0), UNKNOWN);
            s.due("OUTSIDE before NOT", line().region(0, 1, 1, 4), OUTSIDE);
            s.due("only NOT", line().region(0, 1, 1, 3), NOT);
        });
        order(20, () -> {
            s.due("UNKNOWN before OUTSIDE", line().lift(2, 5, 5), UNKNOWN);
            s.due("only OUTSIDE", line().lift(1, 5, 5), OUTSIDE);
        });
        order(21, () -> {
            s.due("no curve before OUTSIDE", line().way(2, 0, 0, 3), UNKNOWN);
            s.due("no vertex from before OUTSIDE", line().way(0, 1, 0, 3), UNKNOWN);
            s.due("no vertex to before OUTSIDE", line().way(0, 0, 1, 3), UNKNOWN);
            s.due("only OUTSIDE", line().way(0, 0, 0, 3), OUTSIDE);
        });
        order(22, () -> {
            LeastCurves x = Check.made("0:0,x;1:0,y");
            s.due("UNKNOWN before OUTSIDE", x.meeting(1, 6), UNKNOWN);
            s.due("only OUTSIDE", x.meeting(0, 6), OUTSIDE);
        });
        order(23, () -> {
            s.due("UNKNOWN before OUTSIDE", line().count(2, 12), UNKNOWN);
            s.due("only OUTSIDE", line().count(1, 12), OUTSIDE);
        });
    }

    /** A text with a fault, three changes and something in slot 0. */
    private static LeastCurves busy() {
        LeastCurves x = Check.made("0:0,x,y,999+4x;1:5,6+x,7+3y");
        x.put(0, 2, 0, 3);
        x.keep(0);
        x.mirror(1);
        x.move(0, 1, -1);
        return Check.write(x, "0:x;1:y,");
    }

    private static LeastCurves full() {
        return Check.write(new LeastCurves(), "0:7+4x" + " ".repeat(194));
    }

    /** Compares two objects alike, of which only the one got the call that has to fail. */
    private void stays(String call, Supplier<LeastCurves> made, int code, ToLongFunction<LeastCurves> asked) {
        LeastCurves x = made.get();
        s.due(call, asked.applyAsLong(x), code);
        s.holds(call + " leaves all as it was", State.usedUp(x).equals(State.usedUp(made.get())));
    }

    private void busyStays(String call, int code, ToLongFunction<LeastCurves> asked) {
        stays(call, ErrorSentences::busy, code, asked);
    }

    private void unchanged(int promise, Runnable calls) {
        s.test(ERRORS, promise, "A call that returns an error code changes nothing.", calls);
    }

    private void nothingIsChangedByTextAndTerms() {
        unchanged(2, () -> {
            busyStays("write(-1)", OUTSIDE, x -> x.write(-1));
            busyStays("write(256)", OUTSIDE, x -> x.write(256));
            stays("write(120) when full", ErrorSentences::full, FULL, x -> x.write('x'));
            s.due("the full text can be read", full().curves(), 1);
        });
        unchanged(5, () -> busyStays("curves() with a fault", NOT, x -> x.curves()));
        unchanged(8, () -> {
            busyStays("put(2, ..)", UNKNOWN, x -> x.put(2, 0, 0, 0));
            busyStays("put(.., 3, 2, ..)", OUTSIDE, x -> x.put(0, 3, 2, 0));
            busyStays("put(.., 1000)", OUTSIDE, x -> x.put(0, 0, 0, 1000));
        });
        unchanged(9, () -> {
            busyStays("drop(2, ..)", UNKNOWN, x -> x.drop(2, 0, 0));
            busyStays("drop(0, 5, 0)", OUTSIDE, x -> x.drop(0, 5, 0));
            busyStays("drop(0, 1, 1)", NOT, x -> x.drop(0, 1, 1));
        });
        unchanged(10, () -> {
            busyStays("move(2, ..)", UNKNOWN, x -> x.move(2, 1, 1));
            busyStays("move(0, 100, 0)", OUTSIDE, x -> x.move(0, 100, 0));
            busyStays("move(0, -99, 0), only one term too high", NOT, x -> x.move(0, -99, 0));
        });
        unchanged(11, () -> busyStays("mirror(2)", UNKNOWN, x -> x.mirror(2)));
        unchanged(12, () -> busyStays("join(-1)", UNKNOWN, x -> x.join(-1)));
        unchanged(13, () -> {
            busyStays("times(2)", UNKNOWN, x -> x.times(2));
            busyStays("times(0) with i + j above 4", NOT, x -> x.times(0));
            stays("times(1) with c above 999", () -> Check.made("0:999,x;1:1,999+y"), NOT, x -> x.times(1));
            stays("times(0) of one curve without terms", () -> Check.made("0:999,x"), NOT, x -> x.times(0));
        });
    }

    private void nothingIsChangedByPast() {
        unchanged(14, () -> stays("undo() of nothing", () -> Check.write(Check.made("0:1,x;1:2,y"), "0:9"), NOT, x -> x.undo()));
        unchanged(15, () -> {
            busyStays("keep(2)", OUTSIDE, x -> x.keep(2));
            busyStays("keep(-1)", OUTSIDE, x -> x.keep(-1));
        });
        unchanged(16, () -> {
            busyStays("back(2)", OUTSIDE, x -> x.back(2));
            busyStays("back(-1)", OUTSIDE, x -> x.back(-1));
            busyStays("back(1) of nothing", NOT, x -> x.back(1));
        });
    }

    private void nothingIsChangedByLooking() {
        unchanged(6, () -> {
            busyStays("term(2, ..)", UNKNOWN, x -> x.term(2, 0, 0));
            busyStays("term(0, 0, 5)", OUTSIDE, x -> x.term(0, 0, 5));
        });
        unchanged(7, () -> {
            busyStays("value(2, ..)", UNKNOWN, x -> x.value(2, 0, 0, 1, 0));
            busyStays("value with d 61", OUTSIDE, x -> x.value(0, 0, 0, 61, 0));
            stays("value without terms", LeastCurves::new, NOT, x -> x.value(0, 0, 0, 1, 0));
        });
        unchanged(17, () -> {
            busyStays("corner(0, 99, 0)", UNKNOWN, x -> x.corner(0, 99, 0));
            busyStays("corner(0, 0, 7)", OUTSIDE, x -> x.corner(0, 0, 7));
        });
        unchanged(18, () -> {
            busyStays("edge(0, 99, 0)", UNKNOWN, x -> x.edge(0, 99, 0));
            busyStays("edge(0, 0, 10)", OUTSIDE, x -> x.edge(0, 0, 10));
        });
        unchanged(19, () -> {
            busyStays("region(2, ..)", UNKNOWN, x -> x.region(2, 0, 0, 0));
            busyStays("region(.., 4)", OUTSIDE, x -> x.region(0, 0, 0, 4));
            busyStays("region(0, 1, 1, 0)", NOT, x -> x.region(0, 1, 1, 0));
        });
        unchanged(20, () -> {
            busyStays("lift(2, ..)", UNKNOWN, x -> x.lift(2, 0, 0));
            busyStays("lift(0, 4, 1)", OUTSIDE, x -> x.lift(0, 4, 1));
        });
        unchanged(21, () -> {
            busyStays("way(0, 0, 99, 0)", UNKNOWN, x -> x.way(0, 0, 99, 0));
            busyStays("way(0, 0, 0, 3)", OUTSIDE, x -> x.way(0, 0, 0, 3));
        });
        unchanged(22, () -> {
            busyStays("meeting(99, 0)", UNKNOWN, x -> x.meeting(99, 0));
            busyStays("meeting(0, 6)", OUTSIDE, x -> x.meeting(0, 6));
        });
        unchanged(23, () -> {
            busyStays("count(2, 0)", UNKNOWN, x -> x.count(2, 0));
            busyStays("count(0, 12)", OUTSIDE, x -> x.count(0, 12));
        });
        unchanged(24, () -> busyStays("tally(7)", OUTSIDE, x -> x.tally(7)));
    }

    private void none(int promise, Runnable calls) {
        s.test(ERRORS, promise, "NONE (-1000000) is not an error code; it means that there is no such value, "
            + "and is returned only if no error code applies.", calls);
    }

    private void noneIsNoError() {
        none(4, () -> {
            LeastCurves x = Check.write(new LeastCurves(), "0:x");
            s.due("the constant", LeastCurves.NONE, -1000000);
            s.due("no fault", x.fault(), NONE);
            s.due("so no NOT", x.curves(), 1);
        });
        none(6, () -> {
            s.due("no term", line().term(0, 1, 1), NONE);
            s.due("no curve", line().term(2, 1, 1), UNKNOWN);
            s.due("no place", line().term(0, 1, 4), OUTSIDE);
        });
        none(18, () -> {
            s.row("a ray", w -> line().edge(0, 0, w), 0, 1, 1, 0, NONE, 1, 0, NONE, NONE, 0, OUTSIDE);
            s.due("no edge", line().edge(0, 3, 4), UNKNOWN);
            s.due("no curve", line().edge(2, 0, 4), UNKNOWN);
        });
        none(19, () -> {
            s.due("an open region", line().region(0, 0, 0, 2), NONE);
            s.due("no curve", line().region(2, 0, 0, 2), UNKNOWN);
            s.due("no place", line().region(0, 5, 0, 2), OUTSIDE);
            s.due("no term", line().region(0, 1, 1, 2), NOT);
        });
        none(20, () -> {
            LeastCurves x = Check.made("0:-999,-999+2x");
            s.due("hidden at -999", x.lift(0, 1, 0), NONE);
            s.due("no curve", x.lift(2, 1, 0), UNKNOWN);
            s.due("no place", x.lift(0, 5, 0), OUTSIDE);
        });
        none(23, () -> {
            s.due("no terms", line().count(1, 11), NONE);
            s.due("no curve", line().count(2, 11), UNKNOWN);
            s.due("no such number", line().count(1, 12), OUTSIDE);
        });
    }

    private void fraction(int promise, Runnable calls) {
        s.test(ERRORS, promise, "Fractions are in lowest terms, with a denominator above 0 (0 is 0 / 1).", calls);
    }

    private void fractions() {
        fraction(17, () -> {
            s.row("0", w -> line().corner(0, 0, w), 0, 1, 0, 1);
            s.row("below 0", w -> Check.made("0:0,1+2x,1+3y").corner(0, 0, w), -1, 2, -1, 3);
            s.row("not -2 / 4 and -3 / 3", w -> Check.made("0:0,2+4x,3+3y").corner(0, 0, w), -1, 2, -1, 1);
            s.row("above 0", w -> Check.made("0:6,3+4x,2+4y").corner(0, 0, w), 3, 4, 1, 1);
        });
        fraction(18, () -> {
            s.row("1 / 2", w -> Check.made("0:0,2x,2y,1+2x+2y").edge(0, 2, w + 7), 1, 2);
            s.row("not 2 / 2", w -> Check.made("0:0,2x,2y,2+2x+2y").edge(0, 2, w + 7), 1, 1);
            s.row("3 / 2", w -> Check.made("0:0,2x,2y,3+2x+2y").edge(0, 2, w + 7), 3, 2);
        });
        fraction(19, () -> {
            s.row("3 / 1", w -> Check.made("0:0,3x,3y,-1+x+y").region(0, 1, 1, w + 2), 3, 1);
            s.row("12 / 5", w -> Check.made("0:0,4x,3y,-1+x+y").region(0, 1, 1, w + 2), 12, 5);
            s.row("not 60 / 5", w -> Check.made("0:0,4x,3y,-5+x+y").region(0, 1, 1, w + 2), 12, 1);
        });
        fraction(21, () -> {
            s.row("0", w -> Check.made("0:0,2x,2y,1+2x+2y").way(0, 1, 1, w), 0, 1);
            s.row("1 / 2", w -> Check.made("0:0,2x,2y,1+2x+2y").way(0, 1, 0, w), 1, 2);
            s.row("not 2 / 2", w -> Check.made("0:0,2x,2y,2+2x+2y").way(0, 1, 0, w), 1, 1);
        });
        fraction(22, () -> {
            s.row("0", w -> Check.made("0:0,x;1:0,y").meeting(0, w), 0, 1, 0, 1);
            s.row("not 2 / 4 and -2 / 4", w -> Check.made("0:2,4x;1:-2,4y").meeting(0, w), 1, 2, -1, 2);
            s.row("-1 / 3 and 2 / 1", w -> Check.made("0:0,1+3x;1:6,3y").meeting(0, w), -1, 3, 2, 1);
        });
    }

    private static LeastCurves withAllPlaces() {
        LeastCurves x = new LeastCurves();
        for (int i = 0; i <= 4; i++) {
            for (int j = 0; i + j <= 4; j++) {
                x.put(0, i, j, 0);
            }
        }
        return x;
    }

    private static final int ALL_PLACES = 0b1_00011_00111_01111_11111;

    private void sets() {
        String sentence = "Sets of places are bit masks: bit k is for place k.";
        s.test(ERRORS, 7, sentence, () -> {
            s.due("bit 0", Check.made("0:5").value(0, 0, 0, 1, 1), 1);
            s.due("bit 4", Check.made("0:4y").value(0, 0, 0, 1, 1), 16);
            s.due("bit 5", Check.made("0:x").value(0, 0, 0, 1, 1), 32);
            s.due("bit 20", Check.made("0:4x").value(0, 0, 0, 1, 1), 1 << 20);
            s.due("the bits of all places", withAllPlaces().value(0, 0, 0, 1, 1), ALL_PLACES);
        });
        s.test(ERRORS, 17, sentence, () -> {
            s.due("bits 0, 4 and 20", Check.made("0:0,4x,4y").corner(0, 0, 6), 1 | 1 << 4 | 1 << 20);
            s.due("the bits of all places", withAllPlaces().corner(0, 0, 6), ALL_PLACES);
        });
    }
}

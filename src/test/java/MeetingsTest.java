/** Promises 22 and 24: the intersections of both curves, and what is told of both. */
public final class MeetingsTest {
    private static final int UNKNOWN = -1000001, OUTSIDE = -1000002;
    private static final int MOST = Integer.MAX_VALUE;
    private static final Check check = new Check();

    public static void main(String[] args) {
        crossing();
        multiplicities();
        atVertices();
        none();
        inOrder();
        meetingErrors();
        meetingsFollowChanges();
        sameEdges();
        otherEdges();
        tallyOfChangesAndBytes();
        check.end("MeetingsTest");
    }

    private static void crossing() {
        LeastCurves x = Check.made("0:0,x,y;1:3,x,1+y");
        check.row("two lines", w -> x.meeting(0, w), 1, 1, 0, 1, 1, 1, OUTSIDE);
        check.row("their tally", w -> x.tally(w), 1, 1, 1, 1, 0, 0, 0, OUTSIDE);
        LeastCurves y = Check.made("0:1,2x;1:1,3y");
        check.row("at fractions", w -> y.meeting(0, w), 1, 2, 1, 3, 6, 1);
        check.row("their tally", w -> y.tally(w), 1, 6, 6, 1, 0, 0, 0, OUTSIDE);
    }

    private static void multiplicities() {
        LeastCurves x = Check.made("0:0,4x;1:0,4y");
        check.row("the most", w -> x.meeting(0, w), 0, 1, 0, 1, 16, 1);
        LeastCurves y = Check.made("0:0,3x+y;1:5+2x,3y");
        check.row("askew", w -> y.meeting(0, w), -5, 11, 15, 11, 11, 1);
        LeastCurves z = Check.made("0:0,4x,4y;1:1,4x,2+4y");
        check.row("rays of weight 4", w -> z.meeting(0, w), 1, 4, 0, 1, 16, 1);
        check.row("its tally", w -> z.tally(w), 1, 16, 16, 1, 0);
    }

    private static void atVertices() {
        LeastCurves same = Check.made("0:0,x,y;1:0,x,y");
        check.row("a curve with itself", w -> same.meeting(0, w), 0, 1, 0, 1, 1, 0);
        check.row("its tally", w -> same.tally(w), 1, 1, 1, 0, 1);
        LeastCurves over = Check.made("0:0,x,y;1:5,x,5+y");
        check.row("rays upon each other", w -> over.meeting(0, w), 5, 1, 0, 1, 1, 0);
        check.row("their tally", w -> over.tally(w), 1, 1, 1, 0, 0);
        LeastCurves first = Check.made("0:0,x,y;1:0,2y");
        check.row("only a vertex of curve 0", w -> first.meeting(0, w), 0, 1, 0, 1, 2, 0);
        LeastCurves second = Check.made("0:0,x;1:0,x,y");
        check.row("only a vertex of curve 1", w -> second.meeting(0, w), 0, 1, 0, 1, 1, 0);
        LeastCurves touch = Check.made("0:0,x,y,-2+x+y;1:1,x,-1+y");
        check.row("a bounded edge of the one through the other", w -> touch.tally(w), 1, 2, 2, 1, 0);
        check.row("there", w -> touch.meeting(0, w), 1, 2, 3, 2, 2, 1);
    }

    private static void none() {
        LeastCurves x = Check.made("0:0,x,y");
        check.row("the other has no terms", w -> x.tally(w), 0, 0, 0, 0, 0);
        x.put(1, 2, 2, 5);
        check.row("the other has one", w -> x.tally(w), 0, 0, 0, 0, 0);
        LeastCurves y = Check.made("0:0,x;1:1,x,2x");
        check.row("parallel lines", w -> y.tally(w), 0, 0, 0, 0, 0);
        LeastCurves z = Check.made("0:0,x;1:0,x");
        check.row("the same line", w -> z.tally(w), 0, 0, 0, 0, 1);
        LeastCurves hidden = Check.made("0:0,900+x,2x;1:0,y");
        check.row("a hidden term counts for the sets of all terms", w -> hidden.tally(w), 1, 2, 2, 1, 0);
    }

    private static void inOrder() {
        LeastCurves x = Check.made("0:0,2+x,6+2x;1:0,3+y,9+2y");
        check.due("four", x.tally(0), 4);
        check.row("meeting 0", w -> x.meeting(0, w), -4, 1, -6, 1, 1, 1);
        check.row("meeting 1", w -> x.meeting(1, w), -4, 1, -3, 1, 1, 1);
        check.row("meeting 2", w -> x.meeting(2, w), -2, 1, -6, 1, 1, 1);
        check.row("meeting 3", w -> x.meeting(3, w), -2, 1, -3, 1, 1, 1);
        LeastCurves full = new LeastCurves();
        for (int k = 0; k < 5; k++) {
            full.put(0, k, 0, 10 * k * k);
            full.put(1, 0, k, 10 * k * k);
        }
        check.row("sixteen", w -> full.tally(w), 16, 16, 16, 16, 0);
        check.row("the last", w -> full.meeting(15, w), -10, 1, -10, 1, 1, 1);
        check.due("no more", full.meeting(16, 0), UNKNOWN);
    }

    private static void meetingErrors() {
        LeastCurves x = Check.made("0:0,x,y;1:3,x,1+y");
        check.due("meeting -1", x.meeting(-1, 9), UNKNOWN);
        check.due("meeting 1", x.meeting(1, 9), UNKNOWN);
        check.due("meeting MOST", x.meeting(MOST, 0), UNKNOWN);
        check.due("what -1", x.meeting(0, -1), OUTSIDE);
        check.due("what 6", x.meeting(0, 6), OUTSIDE);
        check.due("tally(-1)", x.tally(-1), OUTSIDE);
        check.due("tally(7)", x.tally(7), OUTSIDE);
    }

    private static void meetingsFollowChanges() {
        LeastCurves x = Check.made("0:0,x;1:0,y");
        check.due("at first", x.meeting(0, 0), 0);
        x.put(0, 1, 0, 4);
        check.row("curve 0 changed", w -> x.meeting(0, w), -4, 1, 0, 1);
        x.put(1, 0, 1, 7);
        check.row("curve 1 changed", w -> x.meeting(0, w), -4, 1, -7, 1);
        x.undo();
        x.undo();
        check.row("undone", w -> x.meeting(0, w), 0, 1, 0, 1);
    }

    private static void same(String text, int want) {
        check.due("tally(4) of " + text, Check.made(text).tally(4), want);
        LeastCurves turned = Check.made(text.replace("0:", "a:").replace("1:", "0:").replace("a:", "1:"));
        check.due("tally(4) of " + text + ", the curves exchanged", turned.tally(4), want);
    }

    private static void sameEdges() {
        check.due("no terms", new LeastCurves().tally(4), 1);
        same("0:3", 1);
        same("0:3;1:5+x+y", 1);
        same("0:0,x;1:5+y,5+x+y", 1);
        same("0:0,x,2x;1:0,2x", 1);
        same("0:0,999+x,2x;1:7+x+y,7+3x+y", 1);
        same("0:0,x,y;1:-4+x+y,-4+2x+y,-4+x+2y", 1);
        same("0:0,3x,1+y;1:9+x,9+4x,10+x+y,999+2x", 1);
        same("0:0,2x,2y,1+2x+2y;1:0,2x,2y,1+2x+2y,x", 1);
    }

    private static void otherEdges() {
        same("0:0,x", 0);
        same("0:0,x;1:0", 0);
        same("0:0,2x;1:0,x", 0);
        same("0:0,x;1:1,x", 0);
        same("0:0,x;1:0,y", 0);
        same("0:0,x,y;1:0,x,1+y", 0);
        same("0:0,x,y;1:x+y,x,y", 0);
        same("0:0,x,y;1:0,x,y,9+x+y", 0);
        same("0:0,x,y,8+x+y;1:0,x,y,9+x+y", 0);
        same("0:0,x,9+2x;1:0,x,8+2x", 0);
        same("0:0,x,y;1:0,2x,2y", 0);
        same("0:0,3x,1+y;1:0,3x,y", 0);
    }

    private static void tallyOfChangesAndBytes() {
        LeastCurves x = new LeastCurves();
        x.put(0, 0, 0, 0);
        Check.write(x, "0:x");
        check.due("changes", x.tally(5), 1);
        check.due("bytes", x.tally(6), 3);
    }
}

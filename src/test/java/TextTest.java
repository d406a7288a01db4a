/** Promises 1 to 5: a new object, the text, and its clauses. */
public final class TextTest {
    private static final int NONE = -1000000, OUTSIDE = -1000002, NOT = -1000003, FULL = -1000004;
    private static final Check check = new Check();

    public static void main(String[] args) {
        newObject();
        write();
        erase();
        faultsOfClauses();
        faultsOfParts();
        faultsOfPowers();
        faultsBehindParts();
        faultsOfSpacesAndBytes();
        faultAtTheLimits();
        curves();
        curvesForget();
        check.end("TextTest");
    }

    private static void newObject() {
        LeastCurves x = new LeastCurves();
        for (int curve = 0; curve < 2; curve++) {
            for (int i = 0; i <= 4; i++) {
                for (int j = 0; i + j <= 4; j++) {
                    check.due("new: term", x.term(curve, i, j), NONE);
                }
            }
            check.due("new: count(0)", x.count(curve, 0), 0);
        }
        check.due("new: bytes", x.tally(6), 0);
        check.due("new: changes", x.tally(5), 0);
        check.due("new: back(0)", x.back(0), NOT);
        check.due("new: back(1)", x.back(1), NOT);
        check.due("new: undo", x.undo(), NOT);
        LeastCurves y = new LeastCurves();
        x.put(0, 0, 0, 1);
        x.write(48);
        check.due("objects are apart", y.count(0, 0) + y.tally(6) + y.tally(5), 0);
    }

    private static void write() {
        LeastCurves x = new LeastCurves();
        check.due("write(-1)", x.write(-1), OUTSIDE);
        check.due("write(256)", x.write(256), OUTSIDE);
        check.due("write(0)", x.write(0), 1);
        check.due("write(255)", x.write(255), 2);
        for (int k = 3; k <= 200; k++) {
            check.due("write no. " + k, x.write(32), k);
        }
        check.due("write no. 201", x.write(32), FULL);
        check.due("OUTSIDE comes before FULL", x.write(256), OUTSIDE);
        check.due("bytes when full", x.tally(6), 200);
        check.due("erase when full", x.erase(), 200);
        check.due("write when emptied", x.write(65), 1);
    }

    private static void erase() {
        LeastCurves x = new LeastCurves();
        check.due("erase nothing", x.erase(), 0);
        Check.write(x, "0:x");
        check.due("erase", x.erase(), 3);
        check.due("bytes then", x.tally(6), 0);
        check.due("erase again", x.erase(), 0);
        Check.write(x, "1:y");
        check.due("what was erased does not come back", x.curves(), 1);
        check.due("curve 0", x.count(0, 0), 0);
        check.due("curve 1", x.count(1, 0), 1);
    }

    private static void fault(String text, int want) {
        LeastCurves x = Check.write(new LeastCurves(), text);
        check.due("fault of \"" + text + "\"", x.fault(), want);
        check.due("bytes of \"" + text + "\" behind fault()", x.tally(6), text.length());
        check.due("fault of \"" + text + "\" asked again", x.fault(), want);
    }

    private static void faultsOfClauses() {
        fault("", 0);
        fault("0", 1);
        fault("1:", 2);
        fault("2:x", 0);
        fault("00:x", 0);
        fault("01:x", 0);
        fault("10:x", 0);
        fault("x", 0);
        fault(":x", 0);
        fault("-1:x", 0);
        fault("0 0:x", 2);
        fault("0x", 1);
        fault("0;", 1);
        fault("0:x;", 4);
        fault("0:x;1", 5);
        fault("0:x;1:", 6);
        fault("0:x;;1:x", 4);
        fault("0:x;2:x", 4);
        fault("0:x;1:y", NONE);
        fault("0:x;0:y;0:1", NONE);
        fault("0:;", 2);
        fault("0:x:", 3);
    }

    private static void faultsOfParts() {
        fault("0:1", NONE);
        fault("0:999", NONE);
        fault("0:000", NONE);
        fault("0:1000", 2);
        fault("0:0000x", 2);
        fault("0:-1", NONE);
        fault("0:-999", NONE);
        fault("0:-1000", 3);
        fault("0:-", 3);
        fault("0:--1", 3);
        fault("0:-x", 3);
        fault("0:-1x", 4);
        fault("0:-1 1", 5);
        fault("0:+1", 2);
        fault("0:,1", 2);
        fault("0:1+", 4);
        fault("0:1+2", 5);
        fault("0:1+2,x", 5);
        fault("0:1+2+x", 5);
        fault("0:1+2;1:x", 5);
        fault("0:1+1000x", 4);
        fault("0:1+-2", 4);
        fault("0:x+-2", NONE);
        fault("0:-2+3", 6);
        fault("0:-2+3x", NONE);
        fault("0:1 2", 4);
        fault("0:1-2", 3);
        fault("0:1:", 3);
        fault("0:x2", 3);
        fault("0:xy", 3);
        fault("0:x-2", 3);
    }

    private static void faultsOfPowers() {
        fault("0:x+x", 4);
        fault("0:y+y", 4);
        fault("0:0x+x", 5);
        fault("0:0y+0y", 6);
        fault("0:2x+1x", 6);
        fault("0:4x", NONE);
        fault("0:5x", 3);
        fault("0:4y", NONE);
        fault("0:5y", 3);
        fault("0:999x", 5);
        fault("0:004y", NONE);
        fault("0:4x+0y", NONE);
        fault("0:4x+y", 5);
        fault("0:4x+1y", 6);
        fault("0:4y+x", 5);
        fault("0:0y+4x", NONE);
        fault("0:0x+5y", 6);
        fault("0:3x+2y", 6);
        fault("0:2y+3x", 6);
        fault("0:2y+2x", NONE);
        fault("0:3x+y,3x+y", NONE);
        fault("0:4x,4y", NONE);
        fault("0:4x;0:4y", NONE);
        fault("0:X", 2);
        fault("0:z", 2);
    }

    private static void faultsBehindParts() {
        fault("0:1+x+y", NONE);
        fault("0:x+1+y", NONE);
        fault("0:y+x+1", NONE);
        fault("0:2y+x+-1", NONE);
        fault("0:1+x+y+", 7);
        fault("0:x+y+1+", 7);
        fault("0:x+y+-1+2", 8);
        fault("0:x+y+1x", 7);
        fault("0:x+y+1", NONE);
        fault("0:x,", 4);
        fault("0:x,,", 4);
        fault("0:x+,", 4);
        fault("0:x+;", 4);
        fault("0:1+x+2", 7);
        fault("0:1+x+2y", NONE);
    }

    private static void faultsOfSpacesAndBytes() {
        fault("   ", 3);
        fault("  0 : - 7 + 2 x + y , 3 ; 1 : x  ", NONE);
        fault(" 0 : x + ", 9);
        fault(" 0 : x   2", 9);
        fault("0:1 0", 4);
        fault("0:x\t", 3);
        fault("\n0:x", 0);
        fault("0:x\0", 3);
        fault("0:x\u00ff", 3);
        fault("0:\u00b2", 2);
    }

    private static String clauses(int many) {
        StringBuilder text = new StringBuilder("0:1");
        for (int k = 1; k < many; k++) {
            text.append(";1:").append(k);
        }
        return text.toString();
    }

    private static void faultAtTheLimits() {
        String most = clauses(24);
        fault(most, NONE);
        fault(most + ";", most.length());
        fault(most + ";0:1", most.length());
        StringBuilder full = new StringBuilder("0:x");
        while (full.length() < 200) {
            full.append(' ');
        }
        fault(full.toString(), NONE);
        full.setCharAt(199, ',');
        fault(full.toString(), 200);
        StringBuilder tokens = new StringBuilder("0:-1");
        while (tokens.length() < 200) {
            tokens.append(",x");
        }
        fault(tokens.toString(), NONE);
        StringBuilder digits = new StringBuilder("0:");
        while (digits.length() < 200) {
            digits.append('9');
        }
        fault(digits.toString(), 2);
    }

    private static void curves() {
        LeastCurves x = Check.write(new LeastCurves(), "0:3+2x+y,-1,x");
        check.due("curves()", x.curves(), 1);
        check.due("3+2x+y", x.term(0, 2, 1), 3);
        check.due("-1", x.term(0, 0, 0), -1);
        check.due("x", x.term(0, 1, 0), 0);
        check.due("the text is empty then", x.tally(6), 0);
        check.due("terms", x.count(0, 0), 3);
        check.due("an empty text has a fault", x.curves(), NOT);
        Check.write(x, "1:5+x,3+x,4+1x;");
        check.due("curves() with a fault", x.curves(), NOT);
        check.due("the text stays", x.tally(6), 15);
        check.due("curve 1 stays", x.count(1, 0), 0);
        Check.write(x, "1:y+5+x,3+y+x,004+1x+01y");
        check.due("curves(), two clauses of one curve", x.curves(), 2);
        check.due("the latter clause", x.term(1, 1, 1), 3);
        check.due("not the former", x.term(1, 1, 0), NONE);
        check.due("one term", x.count(1, 0), 1);
        check.due("a curve without a clause keeps its terms", x.count(0, 0), 3);
        x = Check.made("0:0x+0y+-7,-000+4y,2x,x+3,3x");
        check.due("0x+0y", x.term(0, 0, 0), -7);
        check.due("-000+4y", x.term(0, 0, 4), 0);
        check.due("x+3", x.term(0, 1, 0), 3);
        x = Check.made("1:-999,999+x;0:1;1:x;0:2,2+y");
        check.due("each clause takes all away", x.count(1, 0), 1);
        check.due("curve 0", x.count(0, 0), 2);
        check.due("curve 0 at (0, 0)", x.term(0, 0, 0), 2);
        x.put(1, 4, 0, 4);
        check.due("only curve 0 is named", Check.write(x, "0:3").curves(), 1);
        check.due("curve 1 stays", x.count(1, 0), 2);
        check.due("only curve 1 is named", Check.write(x, "1:3").curves(), 1);
        check.due("curve 0 stays", x.term(0, 0, 0), 3);
        check.due("24 clauses", Check.write(x, clauses(24)).curves(), 24);
        check.due("the last of them", x.term(1, 0, 0), 23);
        check.due("three of a place", Check.made("0:2,1,3").term(0, 0, 0), 1);
    }

    private static void curvesForget() {
        LeastCurves x = Check.made("0:1");
        x.put(0, 1, 0, 5);
        x.keep(0);
        x.keep(1);
        Check.write(x, "1:x,");
        check.due("a fault", x.curves(), NOT);
        check.due("a fault forgets no change", x.tally(5), 1);
        check.due("a fault forgets no slot", x.back(1), 2);
        x.put(0, 1, 0, 6);
        x.write('y');
        check.due("no fault", x.curves(), 1);
        check.due("no change is left", x.tally(5), 0);
        check.due("undo()", x.undo(), NOT);
        check.due("back(0)", x.back(0), NOT);
        check.due("back(1)", x.back(1), NOT);
        check.due("curve 0 stays", x.term(0, 1, 0), 6);
    }
}

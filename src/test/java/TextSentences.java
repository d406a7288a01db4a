/** Section 2 of the document, and promises 1 to 5: the text, its faults and its clauses. */
final class TextSentences {
    private static final int NONE = Sentences.NONE, OUTSIDE = Sentences.OUTSIDE, NOT = Sentences.NOT, FULL = Sentences.FULL;
    private static final String TEXT = Sentences.TEXT;

    private final Sentences s;

    TextSentences(Sentences s) {
        this.s = s;
    }

    void all() {
        lengthAndClauses();
        clausesAndTerms();
        parts();
        kindsOfParts();
        applying();
        tokensAndSpaces();
        faultPosition();
        beginningOfClause();
        beginningOfPart();
        behindDigits();
        behindPart();
        allowed();
        promise1New();
        promise2Write();
        promise3And4();
        promise5Curves();
        promise5CurvesForget();
    }

    /** A text and the fault position that is due, in turn. */
    private void faults(Object... texts) {
        for (int k = 0; k + 1 < texts.length; k += 2) {
            s.fault((String) texts[k], (Integer) texts[k + 1]);
        }
    }

    private static String spaces(int many) {
        return " ".repeat(many);
    }

    /** Four bytes each, but for the last one, which has no semicolon behind it. */
    private static String clauses(int many) {
        return "0:x" + ";0:x".repeat(many - 1);
    }

    private static int c(String text, int i, int j) {
        return Check.made(text).term(0, i, j);
    }

    private void lengthAndClauses() {
        s.test(TEXT, 2, "The text has at most 200 bytes.", () -> {
            LeastCurves x = Check.write(new LeastCurves(), spaces(194) + "1:7+2y");
            s.due("bytes", x.tally(6), 200);
            s.due("byte 201", x.write('y'), FULL);
            s.due("all 200 are read", x.fault(), NONE);
            s.due("all 200 are applied", x.curves(), 1);
            s.due("also the last one", x.term(1, 0, 2), 7);
            s.fault("0:-1" + ",x".repeat(98), NONE);
            s.fault("0:-1" + ",x".repeat(97) + ",z", 199);
            s.due("of 201 bytes the last one is not there", Check.write(new LeastCurves(), spaces(195) + "1:7+2y").fault(), 200);
        });
        s.test(TEXT, 4, "It consists of 1 to 24 clauses with a semicolon between two of them.", () -> {
            faults("", 0, "  ", 2, clauses(1), NONE, clauses(2), NONE, clauses(23), NONE, clauses(24), NONE);
            faults(clauses(25), 95, clauses(49), 95);
            faults("0:x;1:y", NONE, "0:x1:y", 3, "0:x 1:y", 4, "0:x,1:y", 5, ";0:x", 0, "0:x;", 4, "0:x;;0:x", 4);
        });
    }

    private void clausesAndTerms() {
        s.test(TEXT, 4, "A clause is the digit 0 or 1 (the curve), a colon, and one or more terms with a comma between two of them.", () -> {
            faults("0:x", NONE, "1:x", NONE, "2:x", 0, "0x", 1, "0:", 2, "0:,x", 2);
            faults("0:x,y", NONE, "0:x,y,1", NONE, "0:x y", 4, "0:x,,y", 4, "0:x,y,", 6);
            s.due("0 is curve 0", Check.made("0:x,y").count(0, 0), 2);
            s.due("1 is curve 1", Check.made("1:x,y").count(1, 0), 2);
        });
        s.test(TEXT, 4, "A term is one or more parts with a + between two of them", () -> {
            faults("0:7", NONE, "0:7+x", NONE, "0:7+x+2y", NONE, "0:x 7", 4, "0:x2y", 3, "0:xy", 3, "0:-7x", 4);
            faults("0:+x", 2, "0:x++y", 4, "0:x+", 4);
        });
    }

    private void parts() {
        s.test(TEXT, 5, "the parts are: a number, which is c;", () -> {
            s.due("7", c("0:7", 0, 0), 7);
            s.due("-7", c("0:-7+x", 1, 0), -7);
            s.due("0", c("0:y+0", 0, 1), 0);
            s.due("999", c("0:x+999+y", 1, 1), 999);
            s.due("-999", c("0:-999", 0, 0), -999);
        });
        s.test(TEXT, 5, "x, or digits and x: i is 1, or the number of these digits;", () -> {
            s.due("x", c("0:9+x", 1, 0), 9);
            s.due("0x", c("0:9+0x", 0, 0), 9);
            s.due("1x", c("0:9+1x", 1, 0), 9);
            s.due("4x", c("0:9+4x", 4, 0), 9);
            s.due("003x", c("0:9+003x", 3, 0), 9);
            s.due("3x alone", c("0:3x", 3, 0), 0);
        });
        s.test(TEXT, 5, "y, or digits and y: j likewise.", () -> {
            s.due("y", c("0:9+y", 0, 1), 9);
            s.due("0y", c("0:9+0y", 0, 0), 9);
            s.due("1y", c("0:9+1y", 0, 1), 9);
            s.due("4y", c("0:9+4y", 0, 4), 9);
            s.due("003y", c("0:9+003y", 0, 3), 9);
            s.due("3y alone", c("0:3y", 0, 3), 0);
        });
        s.test(TEXT, 5, "A number is 1 to 3 digits, or - and 1 to 3 digits.", () -> {
            s.due("1 digit", c("0:8", 0, 0), 8);
            s.due("2 digits", c("0:87", 0, 0), 87);
            s.due("3 digits", c("0:876", 0, 0), 876);
            s.due("- and 1 digit", c("0:-8", 0, 0), -8);
            s.due("- and 2 digits", c("0:-87", 0, 0), -87);
            s.due("- and 3 digits", c("0:-876", 0, 0), -876);
            s.due("007", c("0:007", 0, 0), 7);
            s.due("-000", c("0:-000", 0, 0), 0);
            faults("0:", 2, "0:8765", 2, "0:0000", 2, "0:-", 3, "0:-8765", 3);
        });
    }

    private void kindsOfParts() {
        s.test(TEXT, 5, "Each of these three kinds of parts occurs at most once in a term, in any order;", () -> {
            for (String text : new String[] {"5+x+2y", "5+2y+x", "x+5+2y", "x+2y+5", "2y+5+x", "2y+x+5"}) {
                s.due(text, c("0:" + text, 1, 2), 5);
            }
            faults("0:5+6", 5, "0:5+6,x", 5, "0:5+-6", 4, "0:-5+6", 6, "0:-5+-6", 5);
            faults("0:x+x", 4, "0:x+2x", 5, "0:0x+0x", 6, "0:y+y", 4, "0:2y+0y", 6, "0:x+5+x", 6);
            faults("0:5,5", NONE, "0:x,x", NONE, "0:y;0:y", NONE);
        });
        s.test(TEXT, 5, "what is missing is 0.", () -> {
            s.due("c, j", c("0:3x", 3, 0), 0);
            s.due("c, i", c("0:3y", 0, 3), 0);
            s.due("c", c("0:x+2y", 1, 2), 0);
            s.due("i, j", c("0:8", 0, 0), 8);
            s.due("i", c("0:8+y", 0, 1), 8);
            s.due("j", c("0:8+x", 1, 0), 8);
            s.due("i and c behind a term that has both", c("0:8+3x,y", 0, 1), 0);
        });
        s.test(TEXT, 5, "(So 0:3+2x+y,-1,x describes three terms of curve 0: 3 at (2, 1), -1 at (0, 0), and 0 at (1, 0).)", () -> {
            LeastCurves x = Check.made("0:3+2x+y,-1,x");
            s.due("terms", x.count(0, 0), 3);
            s.due("(2, 1)", x.term(0, 2, 1), 3);
            s.due("(0, 0)", x.term(0, 0, 0), -1);
            s.due("(1, 0)", x.term(0, 1, 0), 0);
            s.due("terms of curve 1", x.count(1, 0), 0);
        });
    }

    private void applying() {
        s.test(TEXT, 5, "The clauses are applied in their order;", () -> {
            s.due("1, then 2", c("0:1;0:2", 0, 0), 2);
            s.due("2, then 1", c("0:2;0:1", 0, 0), 1);
            s.due("with the other curve between them", c("0:1;1:7;0:2", 0, 0), 2);
            s.due("the last of 24", c("0:5;".repeat(23) + "0:6", 0, 0), 6);
        });
        s.test(TEXT, 5, "by a clause its curve gets the terms of the clause and no others.", () -> {
            LeastCurves x = Check.made("0:1,x,y;1:1,2x;0:2+y,4x");
            s.due("terms of curve 0", x.count(0, 0), 2);
            s.due("a new c", x.term(0, 0, 1), 2);
            s.due("a new place", x.term(0, 4, 0), 0);
            s.due("not those of the clause before", x.term(0, 1, 0), NONE);
            s.due("terms of curve 1", x.count(1, 0), 2);
            x.put(0, 2, 2, 9);
            Check.write(x, "0:3").curves();
            s.due("not those that the curve had", x.count(0, 0), 1);
        });
        s.test(TEXT, 5, "Of several terms at the same place in a clause the one with the smallest c is taken.", () -> {
            s.due("the second of three", c("0:3,1,2", 0, 0), 1);
            s.due("the first of two", c("0:-1+x,x", 1, 0), -1);
            s.due("the last of three", c("0:x+7+y,y+x+6,1x+1y+-999", 1, 1), -999);
            s.due("both alike", c("0:2+x,2+x", 1, 0), 2);
            s.due("they are one term", Check.made("0:3,1,2").count(0, 0), 1);
            s.due("not in two clauses", c("0:1;0:2", 0, 0), 2);
        });
    }

    private void tokensAndSpaces() {
        s.test(TEXT, 4, "A token is a sequence of digits, as many as there are, or any other single byte except a space.", () -> {
            faults("00:x", 0, "0:1234", 2, "0:12 34", 5, "0:x,1234567890", 4, "0:1 234", 4);
            faults("0:--1", 3, "0:++", 2, "0::", 2, "0:xx", 3);
            faults("0:90", NONE, "0:09", NONE, "0:1/", 3, "0:/", 2, "0:1:", 3);
        });
        s.test(TEXT, 4, "Any number of spaces (byte 32) can stand before, between and behind tokens.", () -> {
            faults("0:-1+x", NONE, " 0:-1+x", NONE, "0 :-1+x", NONE, "0: -1+x", NONE, "0:- 1+x", NONE, "0:-1 +x", NONE);
            faults("0:-1+ x", NONE, "0:-1+x ", NONE, "0:1;1:2 x", NONE, "0:1 ;1:x", NONE, "0:1; 1:x", NONE);
            faults(spaces(98) + "0:x" + spaces(99), NONE, "0:" + spaces(197) + "x", NONE, spaces(200), 200);
            for (char other : new char[] {0, 9, 10, 13, 31, 33, 160, 255}) {
                faults(other + "0:x", 0, "0" + other + ":x", 1, "0:" + other + "x", 2, "0:x" + other, 3, "0:1" + other, 3);
            }
        });
    }

    private void faultPosition() {
        s.test(TEXT, 4, "The fault position is the index, from 0, of the first byte of the first token "
            + "that cannot stand where it stands by the following rules", () -> {
            faults("x", 0, "  x", 2, "0:z", 2, "0:z;z", 2, "0:x;2:z", 4, "0:x,1234", 4, "0:x+y  5555 6", 7);
            faults("0:x" + spaces(196) + "x", 199, "0:x" + spaces(195) + "x,", 198);
        });
        s.test(TEXT, 4, "or the length of the text if it ends too early (also if it is empty):", () -> {
            faults("", 0, " ", 1, "0", 1, "0 ", 2, "0:", 2, "0: ", 3, "0:-", 3, "0:-  ", 5, "0:x+", 4, "0:x,", 4, "0:x;", 4);
            faults("0:x;1", 5, "0:x;1:", 6, "0:1+2", 5, "0:1+2 ", 6, "0:x," + spaces(196), 200);
        });
    }

    private void beginningOfClause() {
        s.test(TEXT, 4, "At the beginning of a clause: the single digit 0 or 1;", () -> {
            faults("0:x", NONE, "1:x", NONE, "2:x", 0, "9:x", 0, "00:x", 0, "01:x", 0, "10:x", 0, "11:x", 0, "001:x", 0);
            faults(":x", 0, "x:x", 0, "-0:x", 0, ";0:x", 0, "/:x", 0, ",", 0, "+", 0);
            faults("0:x;0:x", NONE, "0:x;1:x", NONE, "0:x;2:x", 4, "0:x;01:x", 4, "0:x;00:x", 4, "0:x;;", 4, "0:x;x", 4);
        });
        s.test(TEXT, 4, "behind it a colon.", () -> {
            faults("0:x", NONE, "0;x", 1, "0x", 1, "0,x", 1, "0 0:x", 2, "0", 1, "0::x", 2, "0:x;1;y", 5, "0:x;1:y", NONE);
        });
    }

    private void beginningOfPart() {
        s.test(TEXT, 4, "At the beginning of a part: 1 to 3 digits;", () -> {
            faults("0:1", NONE, "0:12", NONE, "0:123", NONE, "0:1234", 2, "0:1x", NONE, "0:01x", NONE, "0:001x", NONE, "0:0001x", 2);
            faults("0:x+123", NONE, "0:x+1234", 4, "0:x+001y", NONE, "0:x+0001y", 4, "0:5+001x", NONE, "0:5+0001x", 4);
            faults("0:x,123", NONE, "0:x,1234", 4);
        });
        s.test(TEXT, 4, "or -, if the term has no number so far;", () -> {
            faults("0:-1", NONE, "0:x+-1", NONE, "0:x+y+-1", NONE, "0:1+-1", 4, "0:-1+-1", 5, "0:1+x+-1", 6, "0:x+1+-1", 6);
            faults("0:1,-1", NONE, "0:1;0:-1", NONE, "0:2x+-1", NONE);
        });
        s.test(TEXT, 4, "or x or y, if allowed (see below).", () -> {
            faults("0:x", NONE, "0:y", NONE, "0:z", 2, "0:w", 2, "0:X", 2, "0:Y", 2, "0:x+x", 4, "0:x+y", NONE);
            faults("0:+", 2, "0:,", 2, "0:;", 2, "0::", 2, "0:x+,", 4, "0:x+;", 4, "0:x++", 4);
        });
        s.test(TEXT, 4, "Behind -: 1 to 3 digits.", () -> {
            faults("0:-0", NONE, "0:-12", NONE, "0:-123", NONE, "0:-1234", 3, "0:-0000", 3, "0:- 1", NONE);
            faults("0:-x", 3, "0:--1", 3, "0:-+", 3, "0:-,", 3, "0:-", 3, "0:-1x", 4, "0:-1y", 4);
        });
    }

    private void behindDigits() {
        s.test(TEXT, 4, "Behind digits with which a part has begun: x or y, if allowed;", () -> {
            faults("0:2x", NONE, "0:2y", NONE, "0:2 x", NONE, "0:2w", 3, "0:2z", 3, "0:4x", NONE, "0:5x", 3);
            faults("0:y+2x", NONE, "0:x+2x", 5, "0:3y+1x", NONE, "0:3y+2x", 6, "0:7+2x", NONE, "0:7+5x", 5);
        });
        s.test(TEXT, 4, "or, if the term has had no number before this part, anything that can stand behind a part "
            + "(then these digits are the number).", () -> {
            faults("0:2", NONE, "0:2+x", NONE, "0:2,x", NONE, "0:2;1:x", NONE, "0:x+2", NONE, "0:x+2+3y", NONE, "0:1,2", NONE);
            faults("0:1+2", 5, "0:1+2+x", 5, "0:1+2,x", 5, "0:1+2;1:x", 5, "0:-1+2", 6, "0:-1+2,x", 6, "0:1+2x", NONE);
            faults("0:2:", 3, "0:2 3", 4, "0:2-", 3, "0:2.", 3, "0:x+y+2+", 7, "0:2;".repeat(23) + "0:2;", 95);
            s.due("they are the number", c("0:3x+2,1", 3, 0), 2);
        });
    }

    private void behindPart() {
        s.test(TEXT, 4, "Behind a part: +, unless the term has three parts already;", () -> {
            faults("0:1+", 4, "0:1+x+", 6, "0:1+x+y+", 7, "0:1+x+y", NONE, "0:x+y+", 6, "0:x+y+1+", 7, "0:x+y+-1+", 8);
            faults("0:1+y+x+", 7, "0:1+2y+2x+", 9, "0:1+x+y,1+x+y", NONE, "0:1+x+y,1+x+y+", 13);
        });
        s.test(TEXT, 4, "a comma;", () -> {
            faults("0:1,x", NONE, "0:x,x", NONE, "0:2x,x", NONE, "0:-1,x", NONE, "0:1+x,x", NONE, "0:1+x+y,x", NONE);
            faults("0:x" + ",x".repeat(98), NONE, clauses(24) + ",x", NONE, "0:x.x", 3);
        });
        s.test(TEXT, 4, "a semicolon, unless this is the 24th clause;", () -> {
            faults("0:1;1:x", NONE, "0:x;1:x", NONE, "0:1+x+y;1:x", NONE, clauses(22) + ";0:x", NONE);
            faults(clauses(23) + ";", 92, clauses(23) + ";0:x", NONE, clauses(24) + ";", 95, clauses(24) + ";0:x", 95);
        });
        s.test(TEXT, 4, "or the end of the text.", () -> {
            faults("0:1", NONE, "0:x", NONE, "0:2y", NONE, "0:-1", NONE, "0:1+x", NONE, "0:1+x+y", NONE, "0:x  ", NONE);
            faults("0:x:", 3, "0:xx", 3, "0:x1", 3, "0:x-1", 3, "0:x.", 3, "0:-1 2", 5, "0:x\0", 3, "0:x\u00ff", 3);
        });
    }

    private void allowed() {
        s.test(TEXT, 4, "x (or y) is allowed if the term has no x (or y) so far", () -> {
            faults("0:x", NONE, "0:x+x", 4, "0:0x+x", 5, "0:x+0x", 5, "0:x+1+x", 6, "0:x,x", NONE, "0:x;0:x", NONE);
            faults("0:y", NONE, "0:y+y", 4, "0:0y+y", 5, "0:y+0y", 5, "0:y+1+y", 6, "0:y,y", NONE, "0:y;0:y", NONE);
            faults("0:x+y", NONE, "0:y+x", NONE);
        });
        s.test(TEXT, 4, "and i + j would be at most 4, where the one that is still missing counts as 0.", () -> {
            faults("0:4x", NONE, "0:5x", 3, "0:4y", NONE, "0:5y", 3, "0:999x", 5, "0:999y", 5, "0:004x", NONE, "0:005x", 5);
            faults("0:3x+y", NONE, "0:4x+y", 5, "0:4x+0y", NONE, "0:4x+1y", 6, "0:2x+2y", NONE, "0:2x+3y", 6, "0:0x+4y", NONE);
            faults("0:3y+x", NONE, "0:4y+x", 5, "0:4y+0x", NONE, "0:4y+1x", 6, "0:2y+2x", NONE, "0:2y+3x", 6, "0:0y+4x", NONE);
            faults("0:0x+5y", 6, "0:0y+5x", 6, "0:4x,4y", NONE, "0:4y;1:4x", NONE);
        });
    }

    private void promise1New() {
        s.promise(1, "Creates two curves without terms, with an empty text and nothing saved.", () -> {
            Check.made("0:1;1:2").keep(0);
            Check.write(new LeastCurves(), "0:1").put(1, 0, 0, 0);
            LeastCurves x = new LeastCurves();
            s.places("term of curve 0", (i, j) -> x.term(0, i, j), (i, j) -> NONE);
            s.places("term of curve 1", (i, j) -> x.term(1, i, j), (i, j) -> NONE);
            s.due("terms of curve 0", x.count(0, 0), 0);
            s.due("terms of curve 1", x.count(1, 0), 0);
            s.due("bytes", x.tally(6), 0);
            s.due("fault", x.fault(), 0);
            s.due("changes", x.tally(5), 0);
            s.due("undo()", x.undo(), NOT);
            s.due("slot 0", x.back(0), NOT);
            s.due("slot 1", x.back(1), NOT);
        });
    }

    private void promise2Write() {
        s.promise(2, "Appends a byte to the text.", () -> {
            LeastCurves x = Check.made("0:1,x");
            for (char letter : "1:7+2y".toCharArray()) {
                x.write(letter);
            }
            s.due("they stand in their order", x.curves(), 1);
            s.due("(0, 2)", x.term(1, 0, 2), 7);
        });
        s.promise(2, "@return how many bytes it has then;", () -> {
            LeastCurves x = new LeastCurves();
            for (int k = 1; k <= 200; k++) {
                s.due("byte " + k, x.write(k), k);
            }
            x.erase();
            s.due("the first one again", x.write(' '), 1);
        });
        s.promise(2, "OUTSIDE if letter is not 0 to 255;", () -> {
            s.range("letter", k -> new LeastCurves().write(k), OUTSIDE, 0, 1, 255, 1);
            s.due("256 + 48", new LeastCurves().write(256 + 48), OUTSIDE);
            s.due("48 - 256", new LeastCurves().write(48 - 256), OUTSIDE);
        });
        s.promise(2, "FULL if it has 200.", () -> {
            LeastCurves x = Check.write(new LeastCurves(), spaces(198));
            s.due("it has 198", x.write('0'), 199);
            s.due("it has 199", x.write('0'), 200);
            s.due("it has 200", x.write('0'), FULL);
            s.due("it still has 200", x.write(0), FULL);
            x.erase();
            s.due("it has none", x.write('0'), 1);
        });
    }

    private void promise3And4() {
        s.promise(3, "Empties the text.", () -> {
            LeastCurves x = Check.write(new LeastCurves(), "0:x");
            x.erase();
            s.due("bytes", x.tally(6), 0);
            s.due("fault", x.fault(), 0);
            s.due("curves()", x.curves(), NOT);
            s.due("what comes next stands alone", Check.write(x, "1:y").curves(), 1);
            s.due("curve 0", x.count(0, 0), 0);
            Check.write(x, "0:1234").erase();
            s.due("also without the digits that stood there", Check.write(x, "0:12").curves(), 1);
            s.due("c", x.term(0, 0, 0), 12);
            Check.write(x, "0: x").erase();
            s.due("also without the space that stood there", Check.write(x, "0:").fault(), 2);
        });
        s.promise(3, "@return how many bytes it had.", () -> {
            s.due("none", new LeastCurves().erase(), 0);
            s.due("one", Check.write(new LeastCurves(), "0").erase(), 1);
            s.due("two hundred", Check.write(new LeastCurves(), spaces(200)).erase(), 200);
            LeastCurves x = Check.write(new LeastCurves(), "0:x");
            s.due("three", x.erase(), 3);
            s.due("none any more", x.erase(), 0);
        });
        s.promise(4, "Returns the fault position of the text (section 2);", () -> {
            LeastCurves x = new LeastCurves();
            int[] wants = {0, 1, 2, NONE, 4, 5, NONE, 7, NONE, 9, 10, NONE, 12, 13, 14, NONE, NONE, 16, 16};
            String text = "0:5+2x+y,-1;1:3yy ";
            for (int k = 0; k < wants.length; k++) {
                s.due("of the first " + k + " bytes of " + text, x.fault(), wants[k]);
                s.due("asked once more", x.fault(), wants[k]);
                x.write(k < text.length() ? text.charAt(k) : ' ');
            }
            x.erase();
            s.due("of another text", Check.write(x, "1:5+x+y").fault(), NONE);
        });
        s.promise(4, "NONE if it has none.", () -> {
            s.fault("0:x", NONE);
            s.fault("0:x.", 3);
            s.fault("0:1;1:2", NONE);
            s.fault("0:1;1:", 6);
        });
    }

    private void promise5Curves() {
        s.promise(5, "Applies the clauses of the text to the curves, and empties the text.", () -> {
            LeastCurves x = Check.write(new LeastCurves(), "0:1,x;1:2,3+y");
            x.curves();
            s.due("curve 0 at (1, 0)", x.term(0, 1, 0), 0);
            s.due("curve 1 at (0, 1)", x.term(1, 0, 1), 3);
            s.due("bytes", x.tally(6), 0);
            s.due("the empty text has a fault", x.curves(), NOT);
        });
        s.promise(5, "A curve without a clause keeps its terms.", () -> {
            LeastCurves x = Check.made("0:1,x;1:2,3+y");
            Check.write(x, "0:9").curves();
            s.due("curve 1 keeps two", x.count(1, 0), 2);
            s.due("curve 0 has one", x.count(0, 0), 1);
            Check.write(x, "1:8,2x,y").curves();
            s.due("curve 0 keeps one", x.count(0, 0), 1);
            s.due("its c", x.term(0, 0, 0), 9);
            s.due("curve 1 has three", x.count(1, 0), 3);
            x.put(1, 4, 0, 1);
            Check.write(x, "0:7").curves();
            s.due("curve 1 keeps also what was put", x.count(1, 0), 4);
            x.put(0, 4, 0, 1);
            Check.write(x, "1:7").curves();
            s.due("curve 0 keeps also what was put", x.count(0, 0), 2);
            keepsBesideFault(0);
            keepsBesideFault(1);
        });
        s.promise(5, "@return the number of clauses;", () -> {
            s.due("1", Check.write(new LeastCurves(), "0:x").curves(), 1);
            s.due("2 of one curve", Check.write(new LeastCurves(), "0:x;0:y").curves(), 2);
            s.due("2 of both", Check.write(new LeastCurves(), "0:x;1:y").curves(), 2);
            s.due("24", Check.write(new LeastCurves(), clauses(24)).curves(), 24);
        });
        s.promise(5, "NOT if the text has a fault (the text stays then).", () -> {
            LeastCurves x = Check.write(Check.made("0:5"), "0:9;1:x,");
            s.due("a fault at the very end", x.curves(), NOT);
            s.due("the text stays", x.tally(6), 8);
            s.due("no clause is applied", x.term(0, 0, 0), 5);
            x.write('y');
            s.due("no fault any more", x.curves(), 2);
            s.due("both are applied", x.term(0, 0, 0) + x.count(1, 0), 11);
            s.due("25 clauses", Check.write(new LeastCurves(), clauses(25)).curves(), NOT);
            s.due("no text", new LeastCurves().curves(), NOT);
        });
    }

    /** The clauses of a text with a fault do not count, also if another text is applied later. */
    private void keepsBesideFault(int curve) {
        LeastCurves x = Check.made("0:1,x;1:2,y");
        Check.write(x, curve + ":5+2x,6;" + (1 - curve) + ":z").curves();
        x.erase();
        Check.write(x, (1 - curve) + ":8").curves();
        s.due("terms of curve " + curve, x.count(curve, 0), 2);
        s.due("c of curve " + curve, x.term(curve, 0, 0), curve + 1);
    }

    private void promise5CurvesForget() {
        s.promise(5, "Nothing is saved and nothing can be undone then.", () -> {
            LeastCurves x = Check.made("0:5");
            x.put(0, 1, 0, 1);
            x.keep(0);
            x.keep(1);
            Check.write(x, "1:");
            s.due("a text with a fault", x.curves(), NOT);
            s.due("leaves what can be undone", x.tally(5), 1);
            s.due("and slot 0", x.back(0), 2);
            s.due("and slot 1", x.back(1), 2);
            x.put(0, 1, 0, 2);
            x.write('y');
            s.due("a text without a fault", x.curves(), 1);
            s.due("changes", x.tally(5), 0);
            s.due("undo()", x.undo(), NOT);
            s.due("back(0)", x.back(0), NOT);
            s.due("back(1)", x.back(1), NOT);
            s.due("the curve without a clause keeps its terms", x.term(0, 1, 0), 2);
        });
    }
}

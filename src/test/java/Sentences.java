import java.io.IOException;
import java.nio.file.Files;
import java.nio.file.Path;
import java.util.ArrayList;
import java.util.Arrays;
import java.util.HashSet;
import java.util.LinkedHashMap;
import java.util.List;
import java.util.Map;
import java.util.Set;
import java.util.regex.Matcher;
import java.util.regex.Pattern;

/** Tests that are named by a sentence of ../shared/DOC.md and by the number of the promise it belongs to. */
final class Sentences {
    static final int NONE = -1000000, UNKNOWN = -1000001, OUTSIDE = -1000002, NOT = -1000003, FULL = -1000004;
    static final int MOST = Integer.MAX_VALUE, LEAST = Integer.MIN_VALUE;

    /** The parts of the document beside those of the promises. */
    static final String WHAT_IT_IS = "What it is";
    static final String ERRORS = "Description";
    static final String TERMS = "1. Terms";
    static final String TEXT = "2. The text";
    static final String SHAPES = "3. Vertices, edges and regions";
    static final String MEETINGS = "4. Intersections";

    /** The answer at a place, or to be due there. */
    interface AtPlace {
        long at(int i, int j);
    }

    private final Check check = new Check();
    private final Map<String, String> document = new LinkedHashMap<>();
    private final Map<String, boolean[]> quoted = new LinkedHashMap<>();
    private final Set<String> names = new HashSet<>();
    private String name = "";
    private int answers = 0;

    Sentences() throws IOException {
        String part = "";
        Pattern heading = Pattern.compile("(?:##|========) ((Promise \\d+).*|.*)");
        for (String line : Files.readAllLines(Path.of("../shared/DOC.md"))) {
            Matcher matcher = heading.matcher(line);
            if (matcher.matches()) {
                part = matcher.group(2) == null ? matcher.group(1) : matcher.group(2);
            } else if (!line.startsWith("`") && !line.startsWith("---- ")) {
                document.merge(part, plain(line), (before, more) -> (before + " " + more).trim());
            }
        }
        document.forEach((key, words) -> quoted.put(key, new boolean[words.length()]));
    }

    private static String plain(String line) {
        return line.replace("`", "").replaceAll("\\s+", " ").trim();
    }

    /** A test of a sentence that stands under the heading of the promise itself. */
    void promise(int promise, String sentence, Runnable calls) {
        test("Promise " + promise, promise, sentence, calls);
    }

    /** A test of a sentence that stands in another part of the document, by the calls of a promise. */
    void test(String part, int promise, String sentence, Runnable calls) {
        String where = part.equals("Promise " + promise) ? part : "Promise " + promise + " (" + part + ")";
        name = where + ", \"" + sentence + "\"";
        check.due(name + ": has no other test", names.add(name) ? 1 : 0, 1);
        String words = document.getOrDefault(part, "");
        int at = words.indexOf(sentence);
        check.due(name + ": stands in the document", at >= 0 ? 1 : 0, 1);
        for (; at >= 0; at = words.indexOf(sentence, at + 1)) {
            Arrays.fill(quoted.get(part), at, at + sentence.length(), true);
        }
        answers = 0;
        calls.run();
        check.due(name + ": looks at answers", answers > 0 ? 1 : 0, 1);
    }

    void due(String call, long got, long want) {
        answers++;
        check.due(name + ": " + call, got, want);
    }

    void holds(String what, boolean held) {
        due(what, held ? 1 : 0, 1);
    }

    void row(String call, Check.Asked asked, long... wants) {
        for (int what = 0; what < wants.length; what++) {
            due(call + " of " + what, asked.at(what), wants[what]);
        }
    }

    /** Both sides of both ends of a range: outside the code is due. */
    void range(String call, Check.Asked asked, long code, int least, long atLeast, int most, long atMost) {
        due(call + " of " + least, asked.at(least), atLeast);
        due(call + " of " + most, asked.at(most), atMost);
        for (int off : new int[] {least - 1, most + 1, LEAST, MOST}) {
            due(call + " of " + off, asked.at(off), code);
        }
    }

    void curves(String call, Check.Asked asked, long at0, long at1) {
        range(call + ", the curve", asked, UNKNOWN, 0, at0, 1, at1);
    }

    /** All places, and all pairs round them, of which none is a place. */
    void places(String call, AtPlace asked, AtPlace want) {
        for (int i = -1; i <= 5; i++) {
            for (int j = -1; j <= 5; j++) {
                boolean isPlace = i >= 0 && j >= 0 && i + j <= 4;
                due(call + " at (" + i + ", " + j + ")", asked.at(i, j), isPlace ? want.at(i, j) : OUTSIDE);
            }
        }
        int[][] far = {{LEAST, 0}, {0, LEAST}, {MOST, 0}, {0, MOST}, {MOST, MOST}, {LEAST, LEAST}, {MOST, LEAST},
            {LEAST, MOST}, {MOST, -MOST + 3}, {-1, 5}, {5, -1}, {-4, 8}, {-5, 25}, {4, 4}};
        for (int[] pair : far) {
            due(call + " at (" + pair[0] + ", " + pair[1] + ")", asked.at(pair[0], pair[1]), OUTSIDE);
        }
    }

    void fault(String text, long want) {
        due("fault of \"" + text + "\"", Check.write(new LeastCurves(), text).fault(), want);
    }

    /** The parts that promise something. */
    private static boolean isPromised(String part) {
        return part.matches("Promise \\d+|\\d\\. .*") || part.equals(ERRORS);
    }

    /** The last words of section 4 tell only how the document goes on. */
    private static boolean tellsSomething(String piece) {
        return piece.matches(".*[a-z]{2}.*") && !piece.contains("methods follow") && !piece.contains("the signature");
    }

    /** Each sentence, and of a row of cases each case, must have been quoted by a test, at least in part. */
    void end(String test) {
        List<String> missing = new ArrayList<>();
        for (Map.Entry<String, String> part : document.entrySet()) {
            Matcher piece = Pattern.compile("(?:[^.;:]|[.;:](?! |$))+").matcher(part.getValue());
            while (isPromised(part.getKey()) && piece.find()) {
                if (tellsSomething(piece.group()) && !isQuoted(part.getKey(), piece.start(), piece.end())) {
                    missing.add(part.getKey() + ": " + piece.group().trim());
                }
            }
        }
        missing.forEach(piece -> check.due("no test for " + piece, 0, 1));
        System.out.println(test + ": " + names.size() + " sentences have tests");
        check.end(test);
    }

    private boolean isQuoted(String part, int from, int to) {
        for (int k = from; k < to; k++) {
            if (quoted.get(part)[k]) {
                return true;
            }
        }
        return false;
    }
}

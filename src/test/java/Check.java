/** Counts and prints the answers that are not due. */
final class Check {
    private int wrong = 0;
    private int looked = 0;

    void due(String call, long got, long want) {
        looked++;
        if (got != want) {
            wrong++;
            if (wrong <= 50) {
                System.out.println(call + " answered " + got + ", due is " + want);
            }
        }
    }

    /** Each answer for what = 0, 1, .. in one row. */
    interface Asked {
        long at(int what);
    }

    void row(String call, Asked asked, long... wants) {
        for (int what = 0; what < wants.length; what++) {
            due(call + " of " + what, asked.at(what), wants[what]);
        }
    }

    boolean hasWrong() {
        return wrong > 0;
    }

    void end(String name) {
        System.out.println(name + ": " + looked + " answers looked at, " + wrong + " wrong");
        if (wrong > 0) {
            System.exit(1);
        }
    }

    /** Writes a text into the object, after what is there. */
    static LeastCurves write(LeastCurves x, String text) {
        for (int k = 0; k < text.length(); k++) {
            x.write(text.charAt(k));
        }
        return x;
    }

    /** A new object with the curves of a text. */
    static LeastCurves made(String text) {
        LeastCurves x = write(new LeastCurves(), text);
        int clauses = x.curves();
        if (clauses < 1) {
            throw new IllegalArgumentException("not a text of clauses: " + text);
        }
        return x;
    }
}

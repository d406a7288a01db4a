/** All that can be told from outside of what an object holds. */
final class State {
    private State() { }

    static String terms(LeastCurves x) {
        StringBuilder told = new StringBuilder();
        for (int curve = 0; curve < 2; curve++) {
            for (int i = 0; i <= 4; i++) {
                for (int j = 0; i + j <= 4; j++) {
                    told.append(x.term(curve, i, j)).append(' ');
                }
            }
        }
        return told.toString();
    }

    /** Uses the object up: takes all changes back, looks into both slots and reads the text. At most 400 calls. */
    static String usedUp(LeastCurves x) {
        StringBuilder told = new StringBuilder();
        told.append("changes ").append(x.tally(5)).append(", bytes ").append(x.tally(6));
        told.append(", fault ").append(x.fault()).append(", terms ").append(terms(x));
        for (int left = x.undo(); left >= 0 && left < 8; left = x.undo()) {
            told.append("; before, ").append(left).append(" left: ").append(terms(x));
        }
        for (int k = 0; k < 2; k++) {
            told.append("; slot ").append(k).append(": ").append(x.back(k)).append(" terms ").append(terms(x));
        }
        told.append("; read ").append(x.curves()).append(" clauses: ").append(terms(x));
        return told.toString();
    }
}

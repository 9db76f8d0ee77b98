/** Counts the calls of a test whose answer is not the one that is due. */
final class Checks {
    private int wrong = 0;
    private int made = 0;
    private String sentence = "";

    /** What the document says that the next checks are about. */
    void sentence(String words) {
        sentence = "[" + words + "] ";
    }

    void due(String call, long got, long want) {
        made++;
        if (got != want) {
            wrong++;
            System.out.println(sentence + call + " answered " + got + ", due is " + want);
        }
    }

    void holds(String what, boolean isSo) {
        made++;
        if (!isSo) {
            wrong++;
            System.out.println(sentence + "not so: " + what);
        }
    }

    void same(String what, String got, String want) {
        made++;
        if (!got.equals(want)) {
            wrong++;
            System.out.println(sentence + what + " is '" + got + "', due is '" + want + "'");
        }
    }

    boolean failed() {
        return wrong != 0;
    }

    /** Ends the test: exit code 1 if an answer was wrong. */
    void end(String test) {
        System.out.println(test + ": " + made + " checks, " + wrong + " wrong");
        if (wrong != 0) {
            System.exit(1);
        }
    }

    static int typeAll(WornSums sums, String text) {
        int letters = 0;
        for (int i = 0; i < text.length(); i++) {
            letters = sums.type(text.charAt(i));
        }
        return letters;
    }

    static int tell(WornSums sums, String text) {
        sums.clear();
        typeAll(sums, text);
        return sums.tells();
    }

    static String words(WornSums sums, int entry) {
        return signs(sums, entry, 0);
    }

    static String figures(WornSums sums, int entry) {
        return signs(sums, entry, 1);
    }

    private static String signs(WornSums sums, int entry, int isFigure) {
        StringBuilder signs = new StringBuilder();
        int length = sums.entry(entry, isFigure);
        for (int place = 0; place < length; place++) {
            signs.append((char) sums.sign(entry, isFigure, place));
        }
        return signs.toString();
    }

    /** All that ENTRIES, SLACK and TOTAL are, as one text, so that two states can be compared. */
    static String state(WornSums sums) {
        StringBuilder state = new StringBuilder();
        for (int entry = 0; entry < sums.count(0); entry++) {
            state.append(words(sums, entry)).append('=').append(figures(sums, entry)).append('|');
        }
        return state + " slack " + sums.count(2) + " total " + sums.count(3);
    }

    /** The state, THE TEXT's length and how many may be UNDONE: what a refused call leaves as it is. */
    static String all(WornSums sums) {
        return state(sums) + " text " + sums.count(5) + " undo " + sums.count(6);
    }
}

/** Promises 5 to 10: drops, wears, makes, slacks, totals, undo. */
public final class ChangesTest {
    private static final Checks CHECKS = new Checks();
    private static final int MIN = Integer.MIN_VALUE;
    private static final int MAX = Integer.MAX_VALUE;

    public static void main(String[] args) {
        dropping();
        wearing();
        making();
        slacking();
        totalling();
        undoing();
        undoingEach();
        undoingAtMostEight();
        CHECKS.end("ChangesTest");
    }

    private static WornSums three() {
        WornSums sums = new WornSums();
        Checks.tell(sums, "twenty one=21");
        Checks.tell(sums, "?ix=6?");
        Checks.tell(sums, "one hundred=100");
        return sums;
    }

    private static void unchanged(WornSums sums, String before) {
        CHECKS.same("all behind the refused calls", Checks.all(sums), before);
    }

    private static void dropping() {
        WornSums sums = three();
        String before = Checks.all(sums);
        CHECKS.due("drops(-1)", sums.drops(-1), WornSums.BAD);
        CHECKS.due("drops(3)", sums.drops(3), WornSums.BAD);
        CHECKS.due("drops(MIN)", sums.drops(MIN), WornSums.BAD);
        CHECKS.due("drops(MAX)", sums.drops(MAX), WornSums.BAD);
        unchanged(sums, before);
        CHECKS.due("drops(1)", sums.drops(1), 2);
        CHECKS.holds("those behind move up",
                Checks.state(sums).equals("twenty one=21|one hundred=100| slack 0 total -9"));
        CHECKS.due("drops(0)", sums.drops(0), 1);
        CHECKS.holds("those behind move up again", Checks.state(sums).equals("one hundred=100| slack 0 total -9"));
        CHECKS.due("drops(1), which is gone", sums.drops(1), WornSums.BAD);
        CHECKS.due("drops(0), the last", sums.drops(0), 0);
        CHECKS.due("drops(0) without ENTRIES", sums.drops(0), WornSums.BAD);
        CHECKS.due("count(6)", sums.count(6), 6);
    }

    private static void wearing() {
        WornSums sums = three();
        String before = Checks.all(sums);
        CHECKS.due("wears(-1, 0, 0)", sums.wears(-1, 0, 0), WornSums.BAD);
        CHECKS.due("wears(3, 0, 0)", sums.wears(3, 0, 0), WornSums.BAD);
        CHECKS.due("wears(0, -1, 0)", sums.wears(0, -1, 0), WornSums.BAD);
        CHECKS.due("wears(0, 2, 0)", sums.wears(0, 2, 0), WornSums.BAD);
        CHECKS.due("wears(0, 0, -1)", sums.wears(0, 0, -1), WornSums.BAD);
        CHECKS.due("wears(0, 0, 10)", sums.wears(0, 0, 10), WornSums.BAD);
        CHECKS.due("wears(0, 1, 2)", sums.wears(0, 1, 2), WornSums.BAD);
        CHECKS.due("wears(0, 0, MAX)", sums.wears(0, 0, MAX), WornSums.BAD);
        CHECKS.due("wears(0, 0, MIN)", sums.wears(0, 0, MIN), WornSums.BAD);
        CHECKS.due("wears at a blank", sums.wears(0, 0, 6), WornSums.STATE);
        CHECKS.due("wears at ?", sums.wears(1, 0, 0), WornSums.STATE);
        CHECKS.due("wears at a figure's ?", sums.wears(1, 1, 1), WornSums.STATE);
        unchanged(sums, before);
        CHECKS.due("wears(0, 0, 0)", sums.wears(0, 0, 0), 't');
        CHECKS.due("wears(0, 0, 9)", sums.wears(0, 0, 9), 'e');
        CHECKS.due("wears(2, 1, 2)", sums.wears(2, 1, 2), '0');
        CHECKS.due("wears(2, 1, 0)", sums.wears(2, 1, 0), '1');
        CHECKS.due("wears again", sums.wears(0, 0, 0), WornSums.STATE);
        CHECKS.holds("signs are worn", Checks.state(sums)
                .equals("?wenty on?=21|?ix=6?|one hundred=?0?| slack 0 total -9"));
    }

    private static void making() {
        WornSums sums = three();
        String before = Checks.all(sums);
        CHECKS.due("makes(-1, 0, 0, 'a')", sums.makes(-1, 0, 0, 'a'), WornSums.BAD);
        CHECKS.due("makes(3, 0, 0, 'a')", sums.makes(3, 0, 0, 'a'), WornSums.BAD);
        CHECKS.due("makes(1, 2, 0, 'a')", sums.makes(1, 2, 0, 'a'), WornSums.BAD);
        CHECKS.due("makes(1, -1, 0, 'a')", sums.makes(1, -1, 0, 'a'), WornSums.BAD);
        CHECKS.due("makes(1, 0, -1, 'a')", sums.makes(1, 0, -1, 'a'), WornSums.BAD);
        CHECKS.due("makes(1, 0, 3, 'a')", sums.makes(1, 0, 3, 'a'), WornSums.BAD);
        CHECKS.due("makes(1, 1, 2, '1')", sums.makes(1, 1, 2, '1'), WornSums.BAD);
        int[] noLetters = {'`', '{', '?', ' ', '=', '5', 'A', 0, -1, 256 + 'a', 65536 + 'a', MIN, MAX};
        for (int sign : noLetters) {
            CHECKS.due("makes(1, 0, 0, " + sign + ")", sums.makes(1, 0, 0, sign), WornSums.BAD);
            CHECKS.due("BAD ahead of STATE", sums.makes(0, 0, 0, sign), WornSums.BAD);
        }
        int[] noFigures = {'/', ':', '?', ' ', 'a', 0, 5, -1, 65536 + '1', MIN, MAX};
        for (int sign : noFigures) {
            CHECKS.due("makes(1, 1, 1, " + sign + ")", sums.makes(1, 1, 1, sign), WornSums.BAD);
            CHECKS.due("BAD ahead of STATE", sums.makes(0, 1, 0, sign), WornSums.BAD);
        }
        CHECKS.due("makes at a letter", sums.makes(1, 0, 1, 'a'), WornSums.STATE);
        CHECKS.due("makes at a blank", sums.makes(0, 0, 6, 'a'), WornSums.STATE);
        CHECKS.due("makes at a figure", sums.makes(1, 1, 0, '1'), WornSums.STATE);
        unchanged(sums, before);
        CHECKS.due("makes(1, 0, 0, 's')", sums.makes(1, 0, 0, 's'), 1);
        CHECKS.due("makes(1, 1, 1, '9')", sums.makes(1, 1, 1, '9'), 0);
        CHECKS.holds("they are made out", Checks.words(sums, 1).equals("six") && Checks.figures(sums, 1).equals("69"));
        making(sums, 'a', '0');
        making(sums, 'z', '9');
    }

    private static void making(WornSums sums, int letter, int figure) {
        sums.wears(0, 0, 0);
        sums.wears(0, 0, 1);
        sums.wears(0, 1, 1);
        CHECKS.due("makes a letter out", sums.makes(0, 0, 0, letter), 2);
        CHECKS.due("makes a figure out", sums.makes(0, 1, 1, figure), 1);
        CHECKS.due("sign(0, 0, 0)", sums.sign(0, 0, 0), letter);
        CHECKS.due("sign(0, 1, 1)", sums.sign(0, 1, 1), figure);
        CHECKS.due("makes the last out", sums.makes(0, 0, 1, letter), 0);
    }

    private static void slacking() {
        WornSums sums = three();
        String before = Checks.all(sums);
        CHECKS.due("slacks(-1)", sums.slacks(-1), WornSums.BAD);
        CHECKS.due("slacks(3)", sums.slacks(3), WornSums.BAD);
        CHECKS.due("slacks(0)", sums.slacks(0), WornSums.STATE);
        unchanged(sums, before);
        CHECKS.due("slacks(2)", sums.slacks(2), 0);
        CHECKS.due("slacks(2) again", sums.slacks(2), WornSums.STATE);
        CHECKS.due("slacks(1)", sums.slacks(1), 2);
        CHECKS.due("count(2)", sums.count(2), 1);
        CHECKS.due("slacks(0)", sums.slacks(0), 1);
        CHECKS.due("count(6)", sums.count(6), 6);
    }

    private static void totalling() {
        WornSums sums = three();
        String before = Checks.all(sums);
        CHECKS.due("totals(-1)", sums.totals(-1), WornSums.BAD);
        CHECKS.due("totals(-8)", sums.totals(-8), WornSums.BAD);
        CHECKS.due("totals(-10)", sums.totals(-10), WornSums.BAD);
        CHECKS.due("totals(10000)", sums.totals(10000), WornSums.BAD);
        CHECKS.due("totals(NONE)", sums.totals(WornSums.NONE), WornSums.STATE);
        unchanged(sums, before);
        CHECKS.due("totals(9999)", sums.totals(9999), WornSums.NONE);
        CHECKS.due("totals(9999) again", sums.totals(9999), WornSums.STATE);
        CHECKS.due("totals(0)", sums.totals(0), 9999);
        CHECKS.due("count(3)", sums.count(3), 0);
        CHECKS.due("totals(NONE)", sums.totals(WornSums.NONE), 0);
        CHECKS.due("count(3)", sums.count(3), WornSums.NONE);
        CHECKS.due("count(6)", sums.count(6), 6);
    }

    private static void undoing() {
        WornSums sums = three();
        String[] states = new String[9];
        states[0] = Checks.state(sums);
        sums.drops(0);
        states[1] = Checks.state(sums);
        sums.wears(1, 0, 4);
        states[2] = Checks.state(sums);
        sums.makes(0, 0, 0, 'f');
        states[3] = Checks.state(sums);
        sums.slacks(2);
        states[4] = Checks.state(sums);
        sums.totals(123);
        states[5] = Checks.state(sums);
        Checks.tell(sums, "five=5");
        Checks.typeAll(sums, "zz");
        int refusedOnes = sums.tells() + sums.drops(7) + sums.wears(0, 0, 9) + sums.makes(0, 0, 0, 'a') + sums.slacks(2)
                + sums.totals(123);
        CHECKS.due("the refused ones", refusedOnes, -12 - 1 - 1 - 2 - 2 - 2);
        sums.keep(0);
        CHECKS.due("count(6)", sums.count(6), 8);
        for (int left = 7, at = 5; at >= 0; left--, at--) {
            CHECKS.due("undo()", sums.undo(), left);
            CHECKS.holds("as ahead of change " + at, Checks.state(sums).equals(states[at]));
            CHECKS.due("THE TEXT is not undone", sums.count(5), 2);
        }
        CHECKS.due("undo() of an ENTRY told", sums.undo(), 1);
        CHECKS.due("count(0)", sums.count(0), 2);
        CHECKS.due("slacks(1) behind undo()", sums.slacks(1), 0);
        CHECKS.due("count(6)", sums.count(6), 2);
        CHECKS.due("undo()", sums.undo(), 1);
        CHECKS.due("undo()", sums.undo(), 0);
        String before = Checks.all(sums);
        CHECKS.due("undo() of nothing", sums.undo(), WornSums.STATE);
        unchanged(sums, before);
    }

    /** What had been found out is found out anew behind undo(). */
    private static void undoingEach() {
        WornSums sums = new WornSums();
        Checks.tell(sums, "s??=?");
        CHECKS.due("least(0)", sums.least(0), 6);
        sums.makes(0, 1, 0, '5');
        CHECKS.due("least(-1)", sums.least(-1), 4);
        sums.totals(5);
        CHECKS.due("least(-1), no way", sums.least(-1), WornSums.NONE);
        sums.undo();
        CHECKS.due("least(-1) behind undo()", sums.least(-1), 4);
        CHECKS.due("entry(0, 4) behind undo()", sums.entry(0, 4), 2);
        sums.undo();
        CHECKS.due("least(-1) behind undo()", sums.least(-1), 3);
        CHECKS.due("entry(0, 4) behind undo()", sums.entry(0, 4), 10);
    }

    private static void undoingAtMostEight() {
        WornSums sums = new WornSums();
        for (int n = 0; n < 20; n++) {
            sums.totals(n);
            CHECKS.due("count(6)", sums.count(6), Math.min(n + 1, 8));
        }
        for (int left = 7; left >= 0; left--) {
            CHECKS.due("undo()", sums.undo(), left);
            CHECKS.due("count(3)", sums.count(3), left + 11);
        }
        CHECKS.due("undo() of a ninth", sums.undo(), WornSums.STATE);
        CHECKS.due("count(3)", sums.count(3), 11);
    }
}

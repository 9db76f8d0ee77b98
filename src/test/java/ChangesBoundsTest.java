/** Promises 5 to 10, sentence by sentence, at each bound and one step to either side of it. */
public final class ChangesBoundsTest {
    private static final Checks CHECKS = new Checks();
    private static final int NONE = WornSums.NONE;
    private static final int BAD = WornSums.BAD;
    private static final int STATE = WornSums.STATE;
    private static final String WORDS_31 = "abcdefgh jklmnopqrstuvwxyzabcde";

    public static void main(String[] args) {
        dropped();
        dropsBad();
        worn();
        wearsBad();
        wearsState();
        madeOut();
        makesBad();
        makesState();
        makesBadAheadOfState();
        slackTold();
        slackRefused();
        totalTold();
        totalRefused();
        eachDeedUndone();
        refusedIsNoDeed();
        nothingToUndo();
        eightAreKnown();
        undoneAmongDeeds();
        othersAreNoDeeds();
        undoneShowsAnew();
        CHECKS.end("ChangesBoundsTest");
    }

    private static WornSums with(String... texts) {
        WornSums sums = new WornSums();
        for (String text : texts) {
            CHECKS.holds(text + " is told", Checks.tell(sums, text) >= 0);
        }
        return sums;
    }

    private static void six(WornSums sums) {
        for (int entry = 0; entry < 6; entry++) {
            Checks.tell(sums, "one=" + entry);
        }
    }

    // ---- drops

    private static void dropped() {
        CHECKS.sentence("An ENTRY is DROPPED (those behind move up): how many are left");
        String all = "one=0|one=1|one=2|one=3|one=4|one=5|";
        for (int entry = 0; entry < 6; entry++) {
            WornSums sums = new WornSums();
            six(sums);
            CHECKS.due("drops(" + entry + ") of 6", sums.drops(entry), 5);
            CHECKS.same("the state", Checks.state(sums), all.replace("one=" + entry + "|", "") + " slack 0 total -9");
            CHECKS.due("drops(5) of 5", sums.drops(5), BAD);
            CHECKS.due("undo()", sums.undo(), 6);
            CHECKS.same("the state", Checks.state(sums), all + " slack 0 total -9");
        }
        WornSums sums = new WornSums();
        six(sums);
        for (int left = 5; left >= 0; left--) {
            CHECKS.due("drops(the last)", sums.drops(left), left);
            CHECKS.due("count(0)", sums.count(0), left);
            CHECKS.due("drops(the one dropped)", sums.drops(left), BAD);
        }
        // signs of a longer ENTRY that stood there are not seen any more
        WornSums moved = with("one hundred and one=101", "a=1");
        moved.drops(0);
        CHECKS.due("entry(0, 0)", moved.entry(0, 0), 1);
        CHECKS.due("entry(0, 1)", moved.entry(0, 1), 1);
        CHECKS.due("sign(0, 0, 1)", moved.sign(0, 0, 1), BAD);
        CHECKS.due("sign(0, 1, 1)", moved.sign(0, 1, 1), BAD);
    }

    private static void dropsBad() {
        CHECKS.sentence("drops: BAD");
        Twins.badOutside(CHECKS, "drops, of 2", 0, 1, Twins::busy, WornSums::drops);
        Twins.badOutside(CHECKS, "drops, of 6", 0, 5, ChangesBoundsTest::six, WornSums::drops);
        Twins.badOutside(CHECKS, "drops, of 1", 0, 0, sums -> Checks.tell(sums, "a=1"), WornSums::drops);
        Twins.Past empty = sums -> { };
        for (int entry = -1; entry <= 6; entry++) {
            int which = entry;
            Twins.changesNothing(CHECKS, "drops(" + entry + ") of none", empty, sums -> sums.drops(which), BAD);
        }
    }

    // ---- wears

    private static void worn() {
        CHECKS.sentence("The sign at a place (0 on) is WORN: what it was (its code)");
        WornSums sums = with("abcdefghijklm nopqrstuvwxyz=123", "a=4");
        for (int place = 0; place < 27; place++) {
            int due = place < 13 ? 'a' + place : 'a' + place - 1;
            CHECKS.due("wears(0, 0, " + place + ")", sums.wears(0, 0, place), place == 13 ? STATE : due);
            CHECKS.due("sign(0, 0, " + place + ")", sums.sign(0, 0, place), place == 13 ? ' ' : '?');
            CHECKS.due("wears again", sums.wears(0, 0, place), STATE);
        }
        CHECKS.due("wears(0, 0, 27)", sums.wears(0, 0, 27), BAD);
        CHECKS.same("the state", Checks.state(sums), "????????????? ?????????????=123|a=4| slack 0 total -9");
        for (int figure = 0; figure <= 9; figure++) {
            WornSums figures = with("a=" + figure + (9 - figure) + figure);
            for (int place = 2; place >= 0; place--) {
                int due = '0' + (place == 1 ? 9 - figure : figure);
                CHECKS.due("wears(0, 1, " + place + ")", figures.wears(0, 1, place), due);
                CHECKS.due("sign(0, 1, " + place + ")", figures.sign(0, 1, place), '?');
            }
            CHECKS.same("the state", Checks.state(figures), "a=???| slack 0 total -9");
        }
        WornSums longest = with(WORDS_31 + "=123");
        CHECKS.due("wears at the 31st sign", longest.wears(0, 0, 30), 'e');
        CHECKS.due("wears at the first sign", longest.wears(0, 0, 0), 'a');
        CHECKS.due("wears at the last figure", longest.wears(0, 1, 2), '3');
        CHECKS.due("count(6)", longest.count(6), 4);
    }

    private static void wearsBad() {
        CHECKS.sentence("wears: BAD (a number is not as told, or there is no such thing)");
        Twins.Past past = Twins::busy;
        Twins.badOutside(CHECKS, "wears at an ENTRY", 0, 1, past, (sums, n) -> sums.wears(n, 0, 0));
        Twins.badOutside(CHECKS, "wears with isFigure", 0, 1, past, (sums, n) -> sums.wears(0, n, 0));
        Twins.badOutside(CHECKS, "wears at a place of WORDS", 0, 2, past, (sums, n) -> sums.wears(0, 0, n));
        Twins.badOutside(CHECKS, "wears at a place of FIGURES", 0, 1, past, (sums, n) -> sums.wears(0, 1, n));
        Twins.badOutside(CHECKS, "wears at a place of 31", 0, 30, sums -> Checks.tell(sums, WORDS_31 + "=123"),
                (sums, n) -> sums.wears(0, 0, n));
        Twins.badOutside(CHECKS, "wears at a place of 3", 0, 2, sums -> Checks.tell(sums, WORDS_31 + "=123"),
                (sums, n) -> sums.wears(0, 1, n));
        Twins.badOutside(CHECKS, "wears at a place of 1", 0, 0, sums -> Checks.tell(sums, "a=1"),
                (sums, n) -> sums.wears(0, 0, n));
        Twins.changesNothing(CHECKS, "wears(0, 0, 0) of none", sums -> { }, sums -> sums.wears(0, 0, 0), BAD);
        WornSums six = new WornSums();
        six(six);
        CHECKS.due("wears(5, 1, 0) of 6", six.wears(5, 1, 0), '5');
        CHECKS.due("wears(6, 1, 0) of 6", six.wears(6, 1, 0), BAD);
    }

    private static void wearsState() {
        CHECKS.sentence("wears: STATE: it is ? or a blank");
        Twins.Past past = Twins::busy;
        Twins.changesNothing(CHECKS, "wears(1, 0, 0) at ?", past, sums -> sums.wears(1, 0, 0), STATE);
        Twins.changesNothing(CHECKS, "wears(1, 0, 5) at a blank", past, sums -> sums.wears(1, 0, 5), STATE);
        Twins.changesNothing(CHECKS, "wears(0, 1, 1) at ?", past, sums -> sums.wears(0, 1, 1), STATE);
        CHECKS.sentence("BAD goes ahead of STATE");
        Twins.changesNothing(CHECKS, "wears(2, 0, 5)", past, sums -> sums.wears(2, 0, 5), BAD);
        Twins.changesNothing(CHECKS, "wears(1, 2, 5)", past, sums -> sums.wears(1, 2, 5), BAD);
        Twins.changesNothing(CHECKS, "wears(1, -1, 5)", past, sums -> sums.wears(1, -1, 5), BAD);
        Twins.changesNothing(CHECKS, "wears(1, 1, 5)", past, sums -> sums.wears(1, 1, 5), BAD);
        Twins.changesNothing(CHECKS, "wears(-1, 0, 0)", past, sums -> sums.wears(-1, 0, 0), BAD);
    }

    // ---- makes

    private static void madeOut() {
        CHECKS.sentence("A ? is MADE OUT (a to z in WORDS, 0 to 9 in FIGURES): how many ? are left in all of the ENTRY");
        for (char letter = 'a'; letter <= 'z'; letter++) {
            WornSums sums = with("???=?", "? ?=??");
            CHECKS.due("makes(1, 0, 2, " + letter + ")", sums.makes(1, 0, 2, letter), 3);
            CHECKS.same("the state", Checks.state(sums), "???=?|? " + letter + "=??| slack 0 total -9");
        }
        for (char figure = '0'; figure <= '9'; figure++) {
            WornSums sums = with("???=?", "? ?=??");
            CHECKS.due("makes(1, 1, 1, " + figure + ")", sums.makes(1, 1, 1, figure), 3);
            CHECKS.same("the state", Checks.state(sums), "???=?|? ?=?" + figure + "| slack 0 total -9");
        }
        WornSums all = with("?".repeat(31) + "=???", "?=?");
        int left = 34;
        for (int place = 30; place >= 0; place--) {
            left--;
            CHECKS.due("makes(0, 0, " + place + ")", all.makes(0, 0, place, 'a'), left);
        }
        CHECKS.due("makes(0, 1, 0)", all.makes(0, 1, 0, '0'), 2);
        CHECKS.due("makes(0, 1, 2)", all.makes(0, 1, 2, '0'), 1);
        CHECKS.due("makes(0, 1, 1)", all.makes(0, 1, 1, '0'), 0);
        CHECKS.due("makes, none is left", all.makes(0, 1, 1, '0'), STATE);
        CHECKS.due("the other's ?", all.entry(1, 2), 2);
    }

    private static void makesBad() {
        CHECKS.sentence("makes: BAD (a number is not as told, or there is no such thing)");
        Twins.Past past = Twins::busy;
        Twins.badOutside(CHECKS, "makes at an ENTRY", 0, 1, past, (sums, n) -> sums.makes(n, 1, 1, '1'));
        Twins.badOutside(CHECKS, "makes with isFigure, a letter", 0, 1, past, (sums, n) -> sums.makes(1, n, 0, 'f'));
        Twins.badOutside(CHECKS, "makes with isFigure, a figure", 0, 1, past, (sums, n) -> sums.makes(1, n, 0, '4'));
        Twins.badOutside(CHECKS, "makes at a place of WORDS", 0, 8, past, (sums, n) -> sums.makes(1, 0, n, 'f'));
        Twins.badOutside(CHECKS, "makes at a place of FIGURES", 0, 1, past, (sums, n) -> sums.makes(0, 1, n, '0'));
        Twins.badOutside(CHECKS, "makes a letter out", 'a', 'z', past, (sums, n) -> sums.makes(1, 0, 0, n));
        Twins.badOutside(CHECKS, "makes a figure out", '0', '9', past, (sums, n) -> sums.makes(0, 1, 1, n));
        Twins.Past worn = sums -> Checks.tell(sums, "?".repeat(31) + "=???");
        Twins.badOutside(CHECKS, "makes at a place of 31", 0, 30, worn, (sums, n) -> sums.makes(0, 0, n, 'f'));
        Twins.badOutside(CHECKS, "makes at a place of 3", 0, 2, worn, (sums, n) -> sums.makes(0, 1, n, '0'));
        Twins.changesNothing(CHECKS, "makes(0, 0, 0, 'a') of none", sums -> { }, sums -> sums.makes(0, 0, 0, 'a'), BAD);
        for (int sign = 0; sign <= 255; sign++) {
            boolean isLetter = sign >= 'a' && sign <= 'z';
            boolean isFigure = sign >= '0' && sign <= '9';
            CHECKS.due("makes " + sign + " out in WORDS", with("?=?").makes(0, 0, 0, sign), isLetter ? 1 : BAD);
            CHECKS.due("makes " + sign + " out in FIGURES", with("?=?").makes(0, 1, 0, sign), isFigure ? 1 : BAD);
        }
    }

    private static void makesState() {
        CHECKS.sentence("makes: STATE: there is no ?");
        Twins.Past past = Twins::busy;
        Twins.changesNothing(CHECKS, "makes at a letter", past, sums -> sums.makes(0, 0, 0, 'a'), STATE);
        Twins.changesNothing(CHECKS, "makes at the same letter", past, sums -> sums.makes(0, 0, 0, 't'), STATE);
        Twins.changesNothing(CHECKS, "makes at a blank", past, sums -> sums.makes(1, 0, 5, 'z'), STATE);
        Twins.changesNothing(CHECKS, "makes at a figure", past, sums -> sums.makes(0, 1, 0, '0'), STATE);
        Twins.changesNothing(CHECKS, "makes at the same figure", past, sums -> sums.makes(0, 1, 0, '1'), STATE);
        WornSums sums = with("?=?");
        CHECKS.due("makes('a')", sums.makes(0, 0, 0, 'a'), 1);
        CHECKS.due("makes('b') there", sums.makes(0, 0, 0, 'b'), STATE);
        CHECKS.due("sign(0, 0, 0)", sums.sign(0, 0, 0), 'a');
        CHECKS.due("wears", sums.wears(0, 0, 0), 'a');
        CHECKS.due("makes('b')", sums.makes(0, 0, 0, 'b'), 1);
    }

    private static void makesBadAheadOfState() {
        CHECKS.sentence("Refused, the first of these that is so: BAD, STATE, FULL");
        Twins.Past past = Twins::busy;
        int[] noLetters = {'a' - 1, 'z' + 1, '?', ' ', '0', '9', 'A', 'Z', 0, -1, 256 + 'a', 65536 + 'a'};
        for (int sign : noLetters) {
            Twins.changesNothing(CHECKS, sign + " at a letter", past, sums -> sums.makes(0, 0, 0, sign), BAD);
            Twins.changesNothing(CHECKS, sign + " at a blank", past, sums -> sums.makes(1, 0, 5, sign), BAD);
        }
        int[] noFigures = {'0' - 1, '9' + 1, '?', ' ', 'a', 'z', 0, 1, 9, -1, 256 + '1', 65536 + '1'};
        for (int sign : noFigures) {
            Twins.changesNothing(CHECKS, sign + " at a figure", past, sums -> sums.makes(0, 1, 0, sign), BAD);
        }
        Twins.changesNothing(CHECKS, "no such ENTRY", past, sums -> sums.makes(2, 0, 0, 'a'), BAD);
        Twins.changesNothing(CHECKS, "no such place", past, sums -> sums.makes(0, 0, 3, 'a'), BAD);
        Twins.changesNothing(CHECKS, "no such isFigure", past, sums -> sums.makes(0, 2, 0, 'a'), BAD);
    }

    // ---- slacks

    private static void slackTold() {
        CHECKS.sentence("SLACK is n (0 .. 2): what it was");
        for (int was = 0; was <= 2; was++) {
            for (int n = 0; n <= 2; n++) {
                WornSums sums = new WornSums();
                sums.slacks(was);
                int deeds = sums.count(6);
                CHECKS.due("slacks(" + n + ") behind slacks(" + was + ")", sums.slacks(n), n == was ? STATE : was);
                CHECKS.due("count(2)", sums.count(2), n);
                CHECKS.due("count(6)", sums.count(6), n == was ? deeds : deeds + 1);
            }
        }
    }

    private static void slackRefused() {
        CHECKS.sentence("slacks: BAD; STATE: it is that");
        Twins.badOutside(CHECKS, "slacks", 0, 2, sums -> { }, WornSums::slacks);
        Twins.badOutside(CHECKS, "slacks", 0, 2, Twins::busy, WornSums::slacks);
        Twins.changesNothing(CHECKS, "slacks(0) at first", sums -> { }, sums -> sums.slacks(0), STATE);
        Twins.changesNothing(CHECKS, "slacks(2)", Twins::busy, sums -> sums.slacks(2), STATE);
        Twins.changesNothing(CHECKS, "slacks(NONE)", Twins::busy, sums -> sums.slacks(NONE), BAD);
        CHECKS.due("slacks(1), which is not so any more", behindBusy().slacks(1), 2);
    }

    private static WornSums behindBusy() {
        WornSums sums = new WornSums();
        Twins.busy(sums);
        return sums;
    }

    // ---- totals

    private static void totalTold() {
        CHECKS.sentence("TOTAL is n (0 .. 9999), or there is none (NONE): what it was (NONE)");
        int[] totals = {NONE, 0, 1, 2, 9, 999, 1000, 5994, 5995, 9998, 9999};
        for (int was : totals) {
            for (int n : totals) {
                WornSums sums = new WornSums();
                sums.totals(was);
                int deeds = sums.count(6);
                CHECKS.due("totals(" + n + ") behind totals(" + was + ")", sums.totals(n), n == was ? STATE : was);
                CHECKS.due("count(3)", sums.count(3), n);
                CHECKS.due("count(6)", sums.count(6), n == was ? deeds : deeds + 1);
            }
        }
    }

    private static void totalRefused() {
        CHECKS.sentence("totals: BAD; STATE: it is so");
        int[] noTotals = {-1, -2, -3, -7, -8, -10, -11, 10000, 10001, 65536, 65536 - 9, 65536 + 61, Integer.MIN_VALUE,
            Integer.MIN_VALUE + 61, Integer.MAX_VALUE};
        for (int n : noTotals) {
            Twins.changesNothing(CHECKS, "totals(" + n + ")", sums -> { }, sums -> sums.totals(n), BAD);
            Twins.changesNothing(CHECKS, "totals(" + n + ")", Twins::busy, sums -> sums.totals(n), BAD);
        }
        Twins.changesNothing(CHECKS, "totals(NONE) at first", sums -> { }, sums -> sums.totals(NONE), STATE);
        Twins.changesNothing(CHECKS, "totals(61)", Twins::busy, sums -> sums.totals(61), STATE);
        Twins.changesNothing(CHECKS, "totals(0)", sums -> sums.totals(0), sums -> sums.totals(0), STATE);
        Twins.changesNothing(CHECKS, "totals(9999)", sums -> sums.totals(9999), sums -> sums.totals(9999), STATE);
        Twins.changesNothing(CHECKS, "totals(NONE)", sums -> {
            sums.totals(5);
            sums.totals(NONE);
        }, sums -> sums.totals(NONE), STATE);
    }

    // ---- undo

    private static void undoes(String deed, int due, Twins.Call call) {
        WornSums sums = new WornSums();
        Checks.tell(sums, "s?x=?");
        Checks.tell(sums, "one two=3");
        sums.slacks(1);
        sums.totals(7);
        Checks.typeAll(sums, "nine=9");
        String before = Checks.state(sums);
        CHECKS.due(deed, call.ask(sums), due);
        CHECKS.holds(deed + " is a deed", !Checks.state(sums).equals(before));
        CHECKS.due("count(6) behind " + deed, sums.count(6), 5);
        int letters = sums.count(5);
        CHECKS.due("undo() of " + deed, sums.undo(), 4);
        CHECKS.due("count(6)", sums.count(6), 4);
        CHECKS.same("the state", Checks.state(sums), before);
        CHECKS.due("THE TEXT is as it was", sums.count(5), letters);
        CHECKS.due(deed + " once more", call.ask(sums), deed.startsWith("tells") ? -10 : due);
    }

    private static void eachDeedUndone() {
        CHECKS.sentence("UNDONE: the latest tells(), drops(), wears(), makes(), slacks(), totals(): as ahead of it");
        undoes("tells()", 2, WornSums::tells);
        undoes("drops(0)", 1, sums -> sums.drops(0));
        undoes("drops(1)", 1, sums -> sums.drops(1));
        undoes("wears(0, 0, 0)", 's', sums -> sums.wears(0, 0, 0));
        undoes("wears(1, 1, 0)", '3', sums -> sums.wears(1, 1, 0));
        undoes("makes(0, 0, 1, 'i')", 1, sums -> sums.makes(0, 0, 1, 'i'));
        undoes("makes(0, 1, 0, '6')", 1, sums -> sums.makes(0, 1, 0, '6'));
        undoes("slacks(0)", 1, sums -> sums.slacks(0));
        undoes("slacks(2)", 1, sums -> sums.slacks(2));
        undoes("totals(NONE)", 7, sums -> sums.totals(NONE));
        undoes("totals(0)", 7, sums -> sums.totals(0));
    }

    private static void refusedIsNoDeed() {
        CHECKS.sentence("UNDONE: the latest that was not refused");
        WornSums sums = with("s?x=?");
        sums.totals(7);
        Checks.typeAll(sums, "x y");
        CHECKS.due("tells()", sums.tells(), -13);
        CHECKS.due("drops(1)", sums.drops(1), BAD);
        CHECKS.due("wears(0, 0, 1)", sums.wears(0, 0, 1), STATE);
        CHECKS.due("wears(0, 0, 3)", sums.wears(0, 0, 3), BAD);
        CHECKS.due("makes(0, 0, 0, 'a')", sums.makes(0, 0, 0, 'a'), STATE);
        CHECKS.due("makes(0, 0, 0, '1')", sums.makes(0, 0, 0, '1'), BAD);
        CHECKS.due("slacks(0)", sums.slacks(0), STATE);
        CHECKS.due("slacks(3)", sums.slacks(3), BAD);
        CHECKS.due("totals(7)", sums.totals(7), STATE);
        CHECKS.due("totals(10000)", sums.totals(10000), BAD);
        CHECKS.due("count(6)", sums.count(6), 2);
        CHECKS.due("undo()", sums.undo(), 1);
        CHECKS.same("the state", Checks.state(sums), "s?x=?| slack 0 total -9");
        CHECKS.due("undo()", sums.undo(), 0);
        CHECKS.same("the state", Checks.state(sums), " slack 0 total -9");
        CHECKS.due("undo()", sums.undo(), STATE);
    }

    private static void nothingToUndo() {
        CHECKS.sentence("undo: STATE: none");
        Twins.changesNothing(CHECKS, "undo() at first", sums -> { }, WornSums::undo, STATE);
        Twins.changesNothing(CHECKS, "undo() behind all", sums -> {
            Twins.busy(sums);
            for (int i = 0; i < 8; i++) {
                sums.undo();
            }
        }, WornSums::undo, STATE);
        Twins.changesNothing(CHECKS, "undo() behind back()", sums -> {
            Twins.busy(sums);
            sums.back(1);
        }, WornSums::undo, STATE);
        Twins.changesNothing(CHECKS, "undo() behind letters alone", sums -> Checks.typeAll(sums, "six=6"), WornSums::undo,
                STATE);
    }

    private static void eightAreKnown() {
        CHECKS.sentence("8 are known, older ones are lost");
        for (int deeds = 0; deeds <= 27; deeds++) {
            WornSums sums = new WornSums();
            for (int n = 1; n <= deeds; n++) {
                sums.totals(n);
                CHECKS.due("count(6) behind " + n, sums.count(6), Math.min(n, 8));
            }
            int known = Math.min(deeds, 8);
            for (int left = known - 1; left >= 0; left--) {
                CHECKS.due("undo() behind " + deeds, sums.undo(), left);
                int total = deeds - (known - left);
                CHECKS.due("count(3)", sums.count(3), total == 0 ? NONE : total);
                CHECKS.due("count(6)", sums.count(6), left);
            }
            CHECKS.due("undo() of one more, behind " + deeds, sums.undo(), STATE);
            CHECKS.due("count(3)", sums.count(3), deeds <= 8 ? NONE : deeds - 8);
        }
    }

    private static void undoneAmongDeeds() {
        CHECKS.sentence("UNDONE: ENTRIES, SLACK, TOTAL are as ahead of it, whatever was undone before");
        WornSums sums = new WornSums();
        for (int n = 1; n <= 10; n++) {
            sums.totals(n);
        }
        for (int n = 0; n < 5; n++) {
            sums.undo();
        }
        CHECKS.due("count(3)", sums.count(3), 5);
        CHECKS.due("count(6)", sums.count(6), 3);
        for (int n = 101; n <= 104; n++) {
            sums.totals(n);
        }
        CHECKS.due("count(6)", sums.count(6), 7);
        int[] due = {103, 102, 101, 5, 4, 3, 2};
        for (int i = 0; i < due.length; i++) {
            CHECKS.due("undo()", sums.undo(), 6 - i);
            CHECKS.due("count(3)", sums.count(3), due[i]);
        }
        CHECKS.due("undo()", sums.undo(), STATE);
        for (int n = 201; n <= 209; n++) {
            sums.totals(n);
        }
        for (int n = 208; n >= 201; n--) {
            sums.undo();
            CHECKS.due("count(3)", sums.count(3), n);
        }
        CHECKS.due("undo() of a ninth", sums.undo(), STATE);
    }

    private static void othersAreNoDeeds() {
        CHECKS.sentence("UNDONE: the latest tells(), drops(), wears(), makes(), slacks(), totals(), and no other call");
        WornSums sums = with("s?x=?");
        sums.slacks(1);
        sums.keep(0);
        sums.type('x');
        sums.clear();
        sums.type('y');
        sums.keep(1);
        sums.least(-1);
        sums.sure(0);
        sums.look(0);
        CHECKS.due("count(6)", sums.count(6), 2);
        CHECKS.due("undo()", sums.undo(), 1);
        CHECKS.same("the state", Checks.all(sums), "s?x=?| slack 0 total -9 text 1 undo 1");
        CHECKS.due("back(0), an image is not undone", sums.back(0), 1);
        CHECKS.same("the state", Checks.all(sums), "s?x=?| slack 1 total -9 text 1 undo 0");
    }

    /** All that is asked is answered anew behind each deed and behind undo(). */
    private static void undoneShowsAnew() {
        CHECKS.sentence("behind a deed and behind undo() all answers are of what there is then");
        WornSums sums = with("???=?");
        found(sums, "3 0 4 1 -9 0");
        sums.totals(2);
        found(sums, "3 0 4 2 2 0");
        sums.totals(3);
        found(sums, "3 0 -9 -9 -9 0");
        sums.undo();
        found(sums, "3 0 4 2 2 0");
        sums.makes(0, 0, 0, 's');
        found(sums, "1 0 -9 -9 -9 -9");
        sums.undo();
        sums.undo();
        found(sums, "3 0 4 1 -9 0");
        sums.makes(0, 1, 0, '2');
        found(sums, "1 0 3 2 2 -9");
        sums.wears(0, 1, 0);
        found(sums, "3 0 4 1 -9 0");
        sums.makes(0, 1, 0, '5');
        found(sums, "1 0 5 6 6 -9");
        sums.makes(0, 0, 0, 'w');
        found(sums, "0 1 -9 -9 -9 -9");
        sums.slacks(1);
        found(sums, "1 0 7 6 6 -9");
        sums.undo();
        found(sums, "0 1 -9 -9 -9 -9");
        Checks.tell(sums, "six=6");
        found(sums, "0 1 -9 -9 -9 -9");
        sums.drops(0);
        found(sums, "1 0 0 6 6 -9");
        sums.undo();
        found(sums, "0 1 -9 -9 -9 -9");
    }

    private static void found(WornSums sums, String due) {
        String got = sums.entry(0, 5) + " " + sums.count(1) + " " + sums.least(-1) + " " + sums.least(0) + " " + sums.sure(0)
                + " " + sums.look(0);
        CHECKS.same("AGREEING, ALTERED, LEAST, its NUMBER, SURE, BEST", got, due);
    }
}

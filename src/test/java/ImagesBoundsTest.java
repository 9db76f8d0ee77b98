/** Promises 19 to 21, sentence by sentence, at each bound and one step to either side of it. */
public final class ImagesBoundsTest {
    private static final Checks CHECKS = new Checks();
    private static final int NONE = WornSums.NONE;
    private static final int BAD = WornSums.BAD;
    private static final int STATE = WornSums.STATE;

    public static void main(String[] args) {
        kept();
        keepsNothingElse();
        keepBad();
        goneBack();
        backToNoneAndToSix();
        nothingUndoneBehindBack();
        backBad();
        backState();
        badAheadOfState();
        eachImageForItself();
        imagesStay();
        counted();
        countedAtMost();
        countBad();
        countChangesNothing();
        CHECKS.end("ImagesBoundsTest");
    }

    private static WornSums with(String... texts) {
        WornSums sums = new WornSums();
        for (String text : texts) {
            CHECKS.holds(text + " is told", Checks.tell(sums, text) >= 0);
        }
        return sums;
    }

    // ---- keep

    private static void kept() {
        CHECKS.sentence("An IMAGE is kept: how many ENTRIES");
        for (int image = 0; image <= 1; image++) {
            WornSums sums = new WornSums();
            CHECKS.due("keep(" + image + ") of none", sums.keep(image), 0);
            for (int entries = 1; entries <= 6; entries++) {
                Checks.tell(sums, "one=1");
                CHECKS.due("keep(" + image + ")", sums.keep(image), entries);
                CHECKS.due("keep(" + image + ") again", sums.keep(image), entries);
            }
            sums.drops(3);
            CHECKS.due("keep(" + image + ")", sums.keep(image), 5);
        }
    }

    private static void keepsNothingElse() {
        CHECKS.sentence("IMAGES 0, 1 keep ENTRIES, SLACK, TOTAL; nothing else");
        WornSums sums = with("s?x=?");
        sums.slacks(1);
        sums.totals(6);
        Checks.typeAll(sums, "one=1");
        String before = Checks.all(sums);
        CHECKS.due("keep(0)", sums.keep(0), 1);
        CHECKS.same("all behind keep(0)", Checks.all(sums), before);
        CHECKS.due("undo()", sums.undo(), 2);
        CHECKS.due("tells()", sums.tells(), 1);
        Checks.typeAll(sums, "xy");
        CHECKS.due("back(0)", sums.back(0), 1);
        CHECKS.same("all behind back(0)", Checks.all(sums), "s?x=?| slack 1 total 6 text 2 undo 0");
        sums.clear();
        CHECKS.due("back(0)", sums.back(0), 1);
        CHECKS.due("THE TEXT is not kept", sums.count(5), 0);
    }

    private static void keepBad() {
        CHECKS.sentence("keep: BAD");
        Twins.badOutside(CHECKS, "keep", 0, 1, sums -> { }, WornSums::keep);
        Twins.badOutside(CHECKS, "keep", 0, 1, Twins::busy, WornSums::keep);
    }

    // ---- back

    private static void goneBack() {
        CHECKS.sentence("All of that becomes as an IMAGE has it: how many ENTRIES");
        Twins.Call[] deeds = {
            sums -> Checks.tell(sums, "two=2"), sums -> sums.drops(0), sums -> sums.wears(0, 0, 0),
            sums -> sums.makes(1, 1, 0, '7'), sums -> sums.slacks(0), sums -> sums.slacks(2), sums -> sums.totals(NONE),
            sums -> sums.totals(8), WornSums::undo, sums -> sums.back(1), sums -> sums.drops(2)
        };
        for (int image = 0; image <= 1; image++) {
            for (int deed = 0; deed < deeds.length; deed++) {
                WornSums sums = with("six=6", "?ne=?");
                sums.slacks(1);
                sums.totals(7);
                CHECKS.due("keep(" + image + ")", sums.keep(image), 2);
                deeds[deed].ask(sums);
                CHECKS.due("back(" + image + ") behind deed " + deed, sums.back(image), 2);
                CHECKS.same("the state", Checks.all(sums), "six=6|?ne=?| slack 1 total 7 text 0 undo 0");
                CHECKS.due("least(-1)", sums.least(-1), 2);
                CHECKS.due("sure(1)", sums.sure(1), 1);
                CHECKS.due("count(1)", sums.count(1), 0);
            }
        }
    }

    private static void backToNoneAndToSix() {
        CHECKS.sentence("All of that becomes as an IMAGE has it: no ENTRY, and six");
        WornSums sums = new WornSums();
        CHECKS.due("keep(0)", sums.keep(0), 0);
        sums.slacks(2);
        sums.totals(9999);
        for (int entry = 0; entry < 6; entry++) {
            Checks.tell(sums, "one=" + entry);
        }
        CHECKS.due("keep(1)", sums.keep(1), 6);
        CHECKS.due("back(0)", sums.back(0), 0);
        CHECKS.same("all", Checks.all(sums), " slack 0 total -9 text 0 undo 0");
        CHECKS.due("least(-1)", sums.least(-1), 0);
        CHECKS.due("entry(0, 0)", sums.entry(0, 0), BAD);
        CHECKS.due("back(1)", sums.back(1), 6);
        CHECKS.same("all", Checks.all(sums), "one=0|one=1|one=2|one=3|one=4|one=5| slack 2 total 9999 text 0 undo 0");
        CHECKS.due("least(-1)", sums.least(-1), NONE);
        CHECKS.due("tells()", sums.tells(), WornSums.FULL);
        CHECKS.due("back(0)", sums.back(0), 0);
        CHECKS.due("tells()", Checks.tell(sums, "six=6"), 0);
        CHECKS.due("back(1)", sums.back(1), 6);
    }

    private static void nothingUndoneBehindBack() {
        CHECKS.sentence("nothing can be UNDONE behind back()");
        for (int deeds = 0; deeds <= 9; deeds++) {
            WornSums sums = new WornSums();
            sums.keep(1);
            for (int n = 1; n <= deeds; n++) {
                sums.totals(n);
            }
            CHECKS.due("back(1) behind " + deeds, sums.back(1), 0);
            CHECKS.due("count(6)", sums.count(6), 0);
            CHECKS.due("undo()", sums.undo(), STATE);
            CHECKS.due("count(3)", sums.count(3), NONE);
            sums.totals(5);
            sums.totals(6);
            CHECKS.due("undo()", sums.undo(), 1);
            CHECKS.due("count(3)", sums.count(3), 5);
            CHECKS.due("undo()", sums.undo(), 0);
            CHECKS.due("count(3)", sums.count(3), NONE);
            CHECKS.due("undo()", sums.undo(), STATE);
        }
    }

    private static void backBad() {
        CHECKS.sentence("back: BAD");
        Twins.badOutside(CHECKS, "back", 0, 1, Twins::busy, WornSums::back);
    }

    private static void backState() {
        CHECKS.sentence("back: STATE: none was kept");
        Twins.changesNothing(CHECKS, "back(0)", sums -> { }, sums -> sums.back(0), STATE);
        Twins.changesNothing(CHECKS, "back(1)", sums -> { }, sums -> sums.back(1), STATE);
        Twins.Past oneAlone = sums -> {
            Checks.tell(sums, "six=6");
            sums.keep(0);
            sums.totals(6);
        };
        Twins.changesNothing(CHECKS, "back(1), 0 was kept", oneAlone, sums -> sums.back(1), STATE);
        Twins.Past otherAlone = sums -> {
            Checks.tell(sums, "six=6");
            sums.keep(1);
            sums.slacks(1);
        };
        Twins.changesNothing(CHECKS, "back(0), 1 was kept", otherAlone, sums -> sums.back(0), STATE);
        Twins.Past badKeep = sums -> {
            Checks.tell(sums, "six=6");
            sums.keep(2);
            sums.keep(-1);
        };
        Twins.changesNothing(CHECKS, "back(0), keep(2) was refused", badKeep, sums -> sums.back(0), STATE);
        Twins.changesNothing(CHECKS, "back(1), keep(2) was refused", badKeep, sums -> sums.back(1), STATE);
    }

    private static void badAheadOfState() {
        CHECKS.sentence("Refused, the first of these that is so: BAD, STATE, FULL");
        Twins.badOutside(CHECKS, "back, none was kept", 0, 1, sums -> { }, WornSums::back);
        Twins.badOutside(CHECKS, "back, one was kept", 0, 1, sums -> sums.keep(0), WornSums::back);
    }

    private static void eachImageForItself() {
        CHECKS.sentence("IMAGES 0, 1");
        WornSums sums = with("one=1");
        sums.keep(0);
        sums.slacks(1);
        Checks.tell(sums, "two=2");
        sums.keep(1);
        sums.totals(3);
        sums.drops(0);
        CHECKS.due("back(0)", sums.back(0), 1);
        CHECKS.same("image 0", Checks.state(sums), "one=1| slack 0 total -9");
        CHECKS.due("back(1)", sums.back(1), 2);
        CHECKS.same("image 1", Checks.state(sums), "one=1|two=2| slack 1 total -9");
        CHECKS.due("keep(0), as image 1 is", sums.keep(0), 2);
        sums.drops(0);
        CHECKS.due("back(0)", sums.back(0), 2);
        CHECKS.same("image 0", Checks.state(sums), "one=1|two=2| slack 1 total -9");
    }

    private static void imagesStay() {
        CHECKS.sentence("An IMAGE stays as it was kept, whatever is done behind it");
        WornSums sums = with("s?x=?");
        sums.keep(0);
        sums.makes(0, 0, 1, 'i');
        sums.wears(0, 0, 0);
        sums.makes(0, 1, 0, '6');
        CHECKS.due("back(0)", sums.back(0), 1);
        CHECKS.same("image 0", Checks.state(sums), "s?x=?| slack 0 total -9");
        sums.wears(0, 0, 0);
        CHECKS.due("back(0) again", sums.back(0), 1);
        CHECKS.same("image 0", Checks.state(sums), "s?x=?| slack 0 total -9");
        sums.wears(0, 0, 2);
        sums.keep(0);
        sums.undo();
        CHECKS.same("undone", Checks.state(sums), "s?x=?| slack 0 total -9");
        CHECKS.due("back(0), kept ahead of undo()", sums.back(0), 1);
        CHECKS.same("image 0 anew", Checks.state(sums), "s??=?| slack 0 total -9");
    }

    // ---- count

    private static void countsAre(WornSums sums, int... due) {
        for (int what = 0; what < due.length; what++) {
            CHECKS.due("count(" + what + ")", sums.count(what), due[what]);
        }
    }

    private static void counted() {
        CHECKS.sentence("0 ENTRIES, 1 ALTERED ones, 2 SLACK, 3 TOTAL (NONE), 4 ? in all, 5 letters of THE TEXT, 6 how many "
                + "may be UNDONE");
        WornSums sums = new WornSums();
        countsAre(sums, 0, 0, 0, NONE, 0, 0, 0);
        sums.type('?');
        countsAre(sums, 0, 0, 0, NONE, 0, 1, 0);
        sums.clear();
        Checks.tell(sums, "s?x=?");
        countsAre(sums, 1, 0, 0, NONE, 2, 0, 1);
        Checks.tell(sums, "six=2");
        countsAre(sums, 2, 1, 0, NONE, 2, 0, 2);
        sums.slacks(2);
        countsAre(sums, 2, 1, 2, NONE, 2, 0, 3);
        sums.totals(0);
        countsAre(sums, 2, 1, 2, 0, 2, 0, 4);
        sums.wears(1, 1, 0);
        countsAre(sums, 2, 0, 2, 0, 3, 0, 5);
        sums.makes(0, 0, 1, 'i');
        countsAre(sums, 2, 0, 2, 0, 2, 0, 6);
        sums.drops(0);
        countsAre(sums, 1, 0, 2, 0, 1, 0, 7);
        sums.undo();
        countsAre(sums, 2, 0, 2, 0, 2, 0, 6);
        sums.totals(NONE);
        countsAre(sums, 2, 0, 2, NONE, 2, 0, 7);
    }

    private static void countedAtMost() {
        CHECKS.sentence("count, with all as full as it may be");
        WornSums sums = new WornSums();
        for (int entry = 1; entry <= 6; entry++) {
            Checks.tell(sums, "?".repeat(31) + "=???");
            countsAre(sums, entry, entry, 0, NONE, 34 * entry, 0, entry);
        }
        sums.slacks(2);
        sums.totals(9999);
        countsAre(sums, 6, 6, 2, 9999, 204, 0, 8);
        sums.slacks(1);
        countsAre(sums, 6, 6, 1, 9999, 204, 0, 8);
        Checks.typeAll(sums, "?".repeat(41));
        countsAre(sums, 6, 6, 1, 9999, 204, 40, 8);
    }

    private static void countBad() {
        CHECKS.sentence("count: BAD");
        Twins.badOutside(CHECKS, "count", 0, 6, sums -> { }, WornSums::count);
        Twins.badOutside(CHECKS, "count", 0, 6, Twins::busy, WornSums::count);
    }

    private static void countChangesNothing() {
        CHECKS.sentence("count changes nothing");
        int[] due = {2, 0, 2, 61, 8, 5, 8};
        for (int what = 0; what < due.length; what++) {
            int which = what;
            Twins.changesNothing(CHECKS, "count(" + what + ")", Twins::busy, sums -> sums.count(which), due[what]);
        }
    }
}

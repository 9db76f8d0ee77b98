/** Promises 1 to 4, sentence by sentence, at each bound and one step to either side of it. */
public final class TextBoundsTest {
    private static final Checks CHECKS = new Checks();
    private static final String LETTERS = "abcdefghijklmnopqrstuvwxyzabcdefghijklmn";
    private static final String WORDS_30 = LETTERS.substring(0, 30);
    private static final String WORDS_31 = LETTERS.substring(0, 31);

    public static void main(String[] args) {
        newObject();
        objectsAreApart();
        lettersTaken();
        lettersRefused();
        textIsFullAtForty();
        badGoesAheadOfFull();
        cleared();
        told();
        entriesAreFullAtSix();
        fullGoesAheadOfFault();
        wordsAreOneToThirtyOne();
        figuresAreOneToThree();
        blankAtTheBegin();
        blankAheadOfEquals();
        blankBehindAnother();
        blankAtTheEnd();
        equalsAtTheBegin();
        endsTooEarly();
        lettersThatCanStand();
        firstOfSeveralFaults();
        lastCall();
        CHECKS.end("TextBoundsTest");
    }

    private static WornSums typed(String text) {
        WornSums sums = new WornSums();
        Checks.typeAll(sums, text);
        return sums;
    }

    private static void newObject() {
        CHECKS.sentence("No ENTRIES; none at first, SLACK 0 at first, TOTAL none at first");
        int[] due = {0, 0, 0, WornSums.NONE, 0, 0, 0};
        for (int what = 0; what < due.length; what++) {
            CHECKS.due("count(" + what + ")", new WornSums().count(what), due[what]);
        }
        WornSums sums = new WornSums();
        CHECKS.due("least(-1)", sums.least(-1), 0);
        CHECKS.due("least(0)", sums.least(0), WornSums.BAD);
        CHECKS.due("entry(0, 0)", sums.entry(0, 0), WornSums.BAD);
        CHECKS.due("drops(0)", sums.drops(0), WornSums.BAD);
        CHECKS.due("slacks(0), which it is", sums.slacks(0), WornSums.STATE);
        CHECKS.due("totals(NONE), which it is", sums.totals(WornSums.NONE), WornSums.STATE);
        CHECKS.due("undo()", sums.undo(), WornSums.STATE);
        CHECKS.due("back(0)", sums.back(0), WornSums.STATE);
        CHECKS.due("back(1)", sums.back(1), WornSums.STATE);
        CHECKS.due("clear()", sums.clear(), 0);
        CHECKS.due("tells()", sums.tells(), -10);
    }

    private static void objectsAreApart() {
        CHECKS.sentence("A new object has no ENTRIES, whatever became of others");
        WornSums other = new WornSums();
        Twins.busy(other);
        String before = Checks.all(other);
        CHECKS.same("a new object", Checks.all(new WornSums()), " slack 0 total -9 text 0 undo 0");
        WornSums sums = new WornSums();
        Checks.tell(sums, "nine=9");
        sums.keep(0);
        CHECKS.same("the other object", Checks.all(other), before);
        other.back(0);
        CHECKS.same("its own image", Checks.state(other), "six=6| slack 1 total -9");
    }

    private static void lettersTaken() {
        CHECKS.sentence("A letter (0 .. 255) comes to THE TEXT: how many it has");
        for (int letter = 0; letter <= 255; letter++) {
            WornSums sums = new WornSums();
            CHECKS.due("type(" + letter + ")", sums.type(letter), 1);
            CHECKS.due("type(" + letter + ") again", sums.type(letter), 2);
            CHECKS.due("count(5)", sums.count(5), 2);
        }
    }

    private static void lettersRefused() {
        CHECKS.sentence("A letter (0 .. 255): BAD");
        Twins.badOutside(CHECKS, "type", 0, 255, sums -> { }, WornSums::type);
        Twins.badOutside(CHECKS, "type", 0, 255, Twins::busy, WornSums::type);
    }

    private static void textIsFullAtForty() {
        CHECKS.sentence("FULL: 40");
        WornSums sums = new WornSums();
        for (int n = 1; n <= 40; n++) {
            CHECKS.due("type of letter " + n, sums.type('a'), n);
        }
        CHECKS.due("type of letter 41", sums.type('a'), WornSums.FULL);
        CHECKS.due("type of letter 42", sums.type('='), WornSums.FULL);
        CHECKS.due("count(5)", sums.count(5), 40);
        CHECKS.due("clear()", sums.clear(), 40);
        CHECKS.due("type behind clear()", sums.type('a'), 1);
        String full = "seven=" + "7".repeat(34);
        Twins.changesNothing(CHECKS, "type behind 40", past -> Checks.typeAll(past, full), past -> past.type('a'),
                WornSums.FULL);
        Twins.changesNothing(CHECKS, "type behind 40, busy", past -> {
            Twins.busy(past);
            past.clear();
            Checks.typeAll(past, full);
        }, past -> past.type('7'), WornSums.FULL);
    }

    private static void badGoesAheadOfFull() {
        CHECKS.sentence("Refused, the first of these that is so: BAD, STATE, FULL");
        Twins.Past full = sums -> Checks.typeAll(sums, LETTERS);
        Twins.badOutside(CHECKS, "type behind 40", 0, 255, full, WornSums::type);
        WornSums nearlyFull = typed(LETTERS.substring(0, 39));
        CHECKS.due("type(256) behind 39", nearlyFull.type(256), WornSums.BAD);
        CHECKS.due("type(255) behind 39", nearlyFull.type(255), 40);
        CHECKS.due("type(255) behind 40", nearlyFull.type(255), WornSums.FULL);
        CHECKS.due("type(0) behind 40", nearlyFull.type(0), WornSums.FULL);
        CHECKS.due("type(256) behind 40", nearlyFull.type(256), WornSums.BAD);
        CHECKS.due("type(-1) behind 40", nearlyFull.type(-1), WornSums.BAD);
    }

    private static void cleared() {
        CHECKS.sentence("THE TEXT is empty: how many letters it had");
        for (int length = 0; length <= 40; length++) {
            WornSums sums = typed(LETTERS.substring(0, length));
            CHECKS.due("clear() of " + length, sums.clear(), length);
            CHECKS.due("count(5)", sums.count(5), 0);
            CHECKS.due("tells() of no text", sums.tells(), -10);
            CHECKS.due("type('a')", sums.type('a'), 1);
        }
        Twins.changesNothing(CHECKS, "clear() of no text", sums -> { }, WornSums::clear, 0);
        Twins.changesNothing(CHECKS, "clear() again", sums -> {
            Twins.busy(sums);
            sums.clear();
        }, WornSums::clear, 0);
        WornSums sums = new WornSums();
        Twins.busy(sums);
        String before = Checks.state(sums) + sums.count(6);
        CHECKS.due("clear()", sums.clear(), 5);
        CHECKS.same("what is no text", Checks.state(sums) + sums.count(6), before);
        sums.undo();
        CHECKS.due("a text cleared is not undone", sums.count(5), 0);
    }

    private static void told() {
        CHECKS.sentence("THE TEXT tells an ENTRY, and is empty then: its number");
        WornSums sums = new WornSums();
        sums.slacks(1);
        sums.totals(5);
        sums.keep(0);
        Checks.typeAll(sums, "one=1");
        CHECKS.due("tells()", sums.tells(), 0);
        CHECKS.due("count(5)", sums.count(5), 0);
        CHECKS.due("count(6)", sums.count(6), 3);
        CHECKS.same("the state", Checks.state(sums), "one=1| slack 1 total 5");
        CHECKS.due("tells() of no text", sums.tells(), -10);
        Checks.typeAll(sums, "two=2");
        CHECKS.due("tells()", sums.tells(), 1);
        CHECKS.same("the state", Checks.state(sums), "one=1|two=2| slack 1 total 5");
        sums.drops(0);
        Checks.typeAll(sums, "six=6");
        CHECKS.due("tells(), behind drops()", sums.tells(), 1);
        CHECKS.same("the state", Checks.state(sums), "two=2|six=6| slack 1 total 5");
        CHECKS.due("back(0)", sums.back(0), 0);
        Checks.typeAll(sums, "six=6");
        CHECKS.due("tells(), behind back()", sums.tells(), 0);
    }

    private static void six(WornSums sums) {
        for (int entry = 0; entry < 6; entry++) {
            CHECKS.due("count(0)", sums.count(0), entry);
            CHECKS.due("tells() of ENTRY " + entry, Checks.tell(sums, "one=" + entry), entry);
        }
        CHECKS.due("count(0)", sums.count(0), 6);
    }

    private static void entriesAreFullAtSix() {
        CHECKS.sentence("FULL: there are 6 (THE TEXT stays)");
        Twins.changesNothing(CHECKS, "tells() of a seventh", sums -> {
            six(sums);
            Checks.typeAll(sums, "six=6");
        }, WornSums::tells, WornSums.FULL);
        WornSums sums = new WornSums();
        six(sums);
        CHECKS.same("six ENTRIES", Checks.state(sums), "one=0|one=1|one=2|one=3|one=4|one=5| slack 0 total -9");
        Checks.typeAll(sums, "six=6");
        CHECKS.due("tells()", sums.tells(), WornSums.FULL);
        CHECKS.due("count(5)", sums.count(5), 5);
        CHECKS.due("count(6)", sums.count(6), 6);
        CHECKS.due("drops(5)", sums.drops(5), 5);
        CHECKS.due("tells(), there are 5", sums.tells(), 5);
        CHECKS.same("six ENTRIES", Checks.state(sums), "one=0|one=1|one=2|one=3|one=4|six=6| slack 0 total -9");
        Checks.typeAll(sums, "two=2");
        CHECKS.due("tells(), there are 6 again", sums.tells(), WornSums.FULL);
        sums.undo();
        CHECKS.due("tells() behind undo()", sums.tells(), 5);
    }

    private static void fullGoesAheadOfFault() {
        CHECKS.sentence("FULL goes ahead of FAULT");
        String[] faulty = {"", "#", "=", " ", "one", "one=", "one =1", "one=1234", LETTERS};
        for (String text : faulty) {
            Twins.changesNothing(CHECKS, "tells() of '" + text + "'", sums -> {
                six(sums);
                Checks.typeAll(sums, text);
            }, WornSums::tells, WornSums.FULL);
        }
        WornSums five = new WornSums();
        six(five);
        five.drops(0);
        five.type('#');
        CHECKS.due("tells(), there are 5", five.tells(), -10);
    }

    /** Tells a text on a new object, and on one that has all else: the ENTRY is as told. */
    private static void tells(String text) {
        WornSums sums = typed(text);
        CHECKS.due("tells() of '" + text + "'", sums.tells(), 0);
        CHECKS.same("the state", Checks.state(sums), text + "| slack 0 total -9");
        CHECKS.due("count(5)", sums.count(5), 0);
        CHECKS.due("count(6)", sums.count(6), 1);
        WornSums busy = new WornSums();
        Twins.busy(busy);
        String before = Checks.state(busy);
        CHECKS.due("tells() of '" + text + "', busy", Checks.tell(busy, text), 2);
        CHECKS.same("the state", Checks.state(busy), before.replace("| slack", "|" + text + "| slack"));
    }

    private static void faults(String text, int fault) {
        CHECKS.due("tells() of '" + text + "'", typed(text).tells(), -10 - fault);
        Twins.changesNothing(CHECKS, "tells() of '" + text + "', busy", sums -> {
            Twins.busy(sums);
            sums.clear();
            Checks.typeAll(sums, text);
        }, WornSums::tells, -10 - fault);
    }

    private static void wordsAreOneToThirtyOne() {
        CHECKS.sentence("WORDS (1 to 31 signs): FAULT at a 32nd sign of WORDS");
        faults("=1", 0);
        tells("a=1");
        tells("?=1");
        tells("ab=1");
        tells(WORDS_30 + "=1");
        tells(WORDS_31 + "=1");
        tells(WORDS_31 + "=123");
        tells("?".repeat(31) + "=???");
        tells(WORDS_30.substring(0, 29) + " z=1");
        faults(WORDS_31 + "f=1", 31);
        faults(WORDS_31 + "?=1", 31);
        faults(WORDS_31 + " =1", 31);
        faults(WORDS_31 + " f=1", 31);
        faults(WORDS_31 + "1=1", 31);
        faults(WORDS_30 + " f=1", 31);
        faults(WORDS_31 + "f", 31);
        faults(WORDS_31 + "fg=1", 31);
        faults(LETTERS, 31);
        faults(WORDS_31 + "=", 32);
        faults(WORDS_31 + "==", 32);
    }

    private static void figuresAreOneToThree() {
        CHECKS.sentence("FIGURES (1 to 3 signs): FAULT at a fourth sign of FIGURES");
        faults("one=", 4);
        tells("one=1");
        tells("one=12");
        tells("one=123");
        tells("one=???");
        faults("one=1234", 7);
        faults("one=123?", 7);
        faults("one=123 ", 7);
        faults("one=123=", 7);
        faults("one=12345", 7);
        faults(WORDS_31 + "=1234", 35);
        faults("a=1234", 5);
    }

    private static void blankAtTheBegin() {
        CHECKS.sentence("WORDS (neither their first sign a blank): FAULT at a blank at the begin");
        faults(" one=1", 0);
        faults("  one=1", 0);
        faults(" =1", 0);
        faults(" ", 0);
        tells("o ne=1");
        tells("? ?=1");
    }

    private static void blankAheadOfEquals() {
        CHECKS.sentence("WORDS (nor their last sign a blank): FAULT at a blank ahead of =, told at that blank");
        faults("one =1", 3);
        faults("? =1", 1);
        faults("one =", 3);
        faults("one two =1", 7);
        faults("one =1234", 3);
        faults(WORDS_30 + " =1", 30);
        faults(WORDS_30.substring(0, 29) + " =1", 29);
        tells("one t=1");
    }

    private static void blankBehindAnother() {
        CHECKS.sentence("no two blanks side by side: FAULT at a blank behind another one, told at that blank");
        faults("a  b=1", 2);
        faults("a   b=1", 2);
        faults("one  =1", 4);
        faults("one  ", 4);
        faults("one two  six=1", 8);
        tells("a b c=1");
        faults("a".repeat(28) + "  b=1", 29);
        faults("a".repeat(29) + "  b=1", 30);
        faults("a".repeat(30) + "  b=1", 31);
    }

    private static void blankAtTheEnd() {
        CHECKS.sentence("the text's length, if it ends too early (behind a blank)");
        faults("one ", 4);
        faults("one two ", 8);
        faults("a ", 2);
        faults(WORDS_30 + " ", 31);
        WornSums sums = typed("one =1");
        sums.clear();
        Checks.typeAll(sums, "one ");
        CHECKS.due("tells(): letters of an earlier text are gone", sums.tells(), -14);
    }

    private static void equalsAtTheBegin() {
        CHECKS.sentence("FAULT at = at the begin");
        faults("=1", 0);
        faults("=", 0);
        faults("==", 0);
        faults("=one=1", 0);
        faults("a=", 2);
        faults("a==1", 2);
        faults("a=1=1", 3);
    }

    private static void endsTooEarly() {
        CHECKS.sentence("the text's length, if it ends too early");
        faults("", 0);
        faults("a", 1);
        faults("?", 1);
        faults("one", 3);
        faults("one two", 7);
        faults(WORDS_30, 30);
        faults(WORDS_31, 31);
        faults("a=", 2);
        faults("one=", 4);
        faults(WORDS_30 + "=", 31);
        faults(WORDS_31 + "=", 32);
    }

    private static void lettersThatCanStand() {
        CHECKS.sentence("WORDS: letters a to z, ?, blanks; FIGURES: figures, ?; FAULT at any other letter where it can't be");
        for (int letter = 0; letter <= 255; letter++) {
            String sign = String.valueOf((char) letter);
            boolean isLetter = "abcdefghijklmnopqrstuvwxyz?".contains(sign);
            boolean isFigure = "0123456789?".contains(sign);
            CHECKS.due("first sign " + letter, typed(sign + "x=1").tells(), isLetter ? 0 : -10);
            if (letter != '=') {
                CHECKS.due("second sign " + letter, typed("x" + sign + "x=1").tells(), isLetter || letter == ' ' ? 0 : -11);
                CHECKS.due("last sign " + letter, typed("xx" + sign + "=1").tells(), isLetter ? 0 : -12);
                CHECKS.due("alone " + letter, typed("x" + sign).tells(), isLetter || letter == ' ' ? -12 : -11);
            }
            CHECKS.due("31st sign " + letter, typed("x".repeat(30) + sign + "=1").tells(),
                    isLetter ? 0 : letter == '=' ? -41 : -40);
            CHECKS.due("first figure " + letter, typed("x=" + sign).tells(), isFigure ? 0 : -12);
            CHECKS.due("second figure " + letter, typed("x=1" + sign).tells(), isFigure ? 0 : -13);
            CHECKS.due("third figure " + letter, typed("x=12" + sign).tells(), isFigure ? 0 : -14);
            CHECKS.due("fourth figure " + letter, typed("x=123" + sign).tells(), -15);
        }
    }

    private static void firstOfSeveralFaults() {
        CHECKS.sentence("FAULT: the place of the first letter that can't stand there");
        faults(" #=", 0);
        faults("#  =12345", 0);
        faults("a#  =12345", 1);
        faults("a  #=12345", 2);
        faults("a =#", 1);
        faults("a=#1234", 2);
        faults("a=12#4", 4);
        faults("a#", 1);
        faults("A", 0);
        faults("a=x", 2);
        faults(WORDS_31 + "##", 31);
        faults(WORDS_30 + "#f=1", 30);
    }

    private static void lastCall() {
        CHECKS.sentence("An object is used for at most 512 calls");
        WornSums sums = new WornSums();
        for (int call = 1; call <= 507; call++) {
            sums.clear();
        }
        Checks.typeAll(sums, "a=1");
        CHECKS.due("call 511, tells()", sums.tells(), 0);
        CHECKS.due("call 512, undo()", sums.undo(), 0);
    }
}

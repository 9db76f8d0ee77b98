/** Promises 11 to 18, and sections 1 to 3, sentence by sentence, at each bound and one step to either side of it. */
public final class QuestionsBoundsTest {
    private static final Checks CHECKS = new Checks();
    private static final int NONE = WornSums.NONE;
    private static final int BAD = WornSums.BAD;
    private static final String LONGEST = "seven hundred and seventy seven";
    private static final String HIGHEST = "nine hundred and ninety nine=999";

    public static void main(String[] args) {
        entryBounds();
        entryCounts();
        entryBad();
        signBounds();
        signBad();
        doubtBad();
        asManySignsAsWords();
        blanksAtTheSamePlaces();
        eachWornSign();
        asManyOthersAsSlack();
        asManySignsAsFigures();
        alikeFigures();
        noSlackForFigures();
        agreeing();
        altered();
        rankedBounds();
        rankedByBoth();
        rankedBad();
        numbersInWords();
        wordBounds();
        wordBad();
        leastWithoutEntries();
        leastBounds();
        leastOfSeveral();
        leastWhereAltered();
        leastBad();
        sureBounds();
        sureWhereAltered();
        sureBad();
        lookBounds();
        lookFewest();
        lookBad();
        nothingIsChanged();
        CHECKS.end("QuestionsBoundsTest");
    }

    private static WornSums with(String... texts) {
        WornSums sums = new WornSums();
        for (String text : texts) {
            CHECKS.holds(text + " is told", Checks.tell(sums, text) >= 0);
        }
        return sums;
    }

    private static WornSums with(int slack, int total, String... texts) {
        WornSums sums = with(texts);
        sums.slacks(slack);
        sums.totals(total);
        return sums;
    }

    private static void six(WornSums sums) {
        for (int entry = 0; entry < 6; entry++) {
            Checks.tell(sums, "s??=" + entry);
        }
    }

    // ---- entry

    private static void entryIs(String text, int slack, int... due) {
        WornSums sums = with(slack, NONE, text);
        for (int what = 0; what < due.length; what++) {
            CHECKS.due("entry(0, " + what + ") of " + text, sums.entry(0, what), due[what]);
        }
    }

    private static void entryBounds() {
        CHECKS.sentence("Of an ENTRY: signs of WORDS, of FIGURES, ? in both");
        entryIs("a=1", 0, 1, 1, 0);
        entryIs("?=?", 0, 1, 1, 2);
        entryIs("ab=12", 0, 2, 2, 0);
        entryIs("a b=1?3", 0, 3, 3, 1);
        entryIs("? ?=123", 0, 3, 3, 2);
        entryIs(LONGEST + "=777", 0, 31, 3, 0);
        entryIs("?".repeat(30) + "=???", 0, 30, 3, 33);
        entryIs("?".repeat(31) + "=???", 0, 31, 3, 34);
        entryIs("a".repeat(31) + "=?", 0, 31, 1, 1);
        entryIs("?".repeat(31) + "=1", 0, 31, 1, 31);
        WornSums sums = new WornSums();
        six(sums);
        for (int entry = 0; entry < 6; entry++) {
            CHECKS.due("entry(" + entry + ", 2)", sums.entry(entry, 2), 2);
        }
    }

    private static void entryCounts() {
        CHECKS.sentence("Of an ENTRY: how many NUMBERS can be by WORDS (3), by FIGURES (4), AGREE (5)");
        entryIs("??=?", 0, 2, 1, 3, 0, 10, 0);
        entryIs("???=?", 0, 3, 1, 4, 4, 10, 3);
        entryIs("???=??", 0, 3, 2, 5, 4, 90, 1);
        entryIs("???=???", 0, 3, 3, 6, 4, 900, 0);
        entryIs("one=1", 0, 3, 1, 0, 1, 2, 1);
        entryIs("zero=0", 0, 4, 1, 0, 1, 3, 1);
        entryIs("one=2", 0, 3, 1, 0, 1, 1, 0);
        entryIs("oxe=1", 0, 3, 1, 0, 0, 2, 0);
        entryIs("oxe=1", 1, 3, 1, 0, 1, 2, 1);
        entryIs(LONGEST + "=777", 0, 31, 3, 0, 1, 8, 1);
        entryIs("nine hundred and ninety nine=999", 0, 28, 3, 0, 1, 8, 1);
        entryIs("????? ??????? ??? ??????? ?????=???", 0, 31, 3, 30, 9, 900, 9);
        entryIs("??? ???????=?00", 0, 11, 3, 11, 3, 81, 3);
        entryIs("??? ??????? ??? ??????=???", 0, 22, 3, 22, 18, 900, 18);
    }

    private static void entryBad() {
        CHECKS.sentence("entry: BAD");
        Twins.badOutside(CHECKS, "entry of what", 0, 5, Twins::busy, (sums, n) -> sums.entry(0, n));
        for (int what = -1; what <= 6; what++) {
            int which = what;
            Twins.badOutside(CHECKS, "entry of", 0, 1, Twins::busy, (sums, n) -> sums.entry(n, which));
            CHECKS.due("entry(0, " + what + ") of none", new WornSums().entry(0, what), BAD);
        }
        Twins.badOutside(CHECKS, "entry of 6", 0, 5, QuestionsBoundsTest::six, (sums, n) -> sums.entry(n, 0));
    }

    // ---- sign

    private static void signBounds() {
        CHECKS.sentence("The sign at a place of WORDS (isFigure 0) or of FIGURES (1), its code");
        String words = "a? cdefghijklmnopqrstuvwxyz?? z";
        WornSums sums = with("b=9", words + "=0?9", "?=5");
        for (int place = 0; place < 31; place++) {
            CHECKS.due("sign(1, 0, " + place + ")", sums.sign(1, 0, place), words.charAt(place));
        }
        CHECKS.due("sign(1, 0, 31)", sums.sign(1, 0, 31), BAD);
        CHECKS.due("sign(1, 1, 0)", sums.sign(1, 1, 0), '0');
        CHECKS.due("sign(1, 1, 1)", sums.sign(1, 1, 1), '?');
        CHECKS.due("sign(1, 1, 2)", sums.sign(1, 1, 2), '9');
        CHECKS.due("sign(1, 1, 3)", sums.sign(1, 1, 3), BAD);
        CHECKS.due("sign(0, 0, 0)", sums.sign(0, 0, 0), 'b');
        CHECKS.due("sign(0, 0, 1)", sums.sign(0, 0, 1), BAD);
        CHECKS.due("sign(0, 1, 0)", sums.sign(0, 1, 0), '9');
        CHECKS.due("sign(0, 1, 1)", sums.sign(0, 1, 1), BAD);
        CHECKS.due("sign(2, 0, 0)", sums.sign(2, 0, 0), '?');
        CHECKS.due("sign(2, 1, 0)", sums.sign(2, 1, 0), '5');
        CHECKS.due("sign(3, 0, 0)", sums.sign(3, 0, 0), BAD);
    }

    private static void signBad() {
        CHECKS.sentence("sign: BAD (no such place)");
        Twins.badOutside(CHECKS, "sign of an ENTRY", 0, 1, Twins::busy, (sums, n) -> sums.sign(n, 0, 0));
        Twins.badOutside(CHECKS, "sign with isFigure", 0, 1, Twins::busy, (sums, n) -> sums.sign(0, n, 0));
        Twins.badOutside(CHECKS, "sign at a place of WORDS", 0, 8, Twins::busy, (sums, n) -> sums.sign(1, 0, n));
        Twins.badOutside(CHECKS, "sign at a place of FIGURES", 0, 1, Twins::busy, (sums, n) -> sums.sign(1, 1, n));
        Twins.changesNothing(CHECKS, "sign(0, 0, 0) of none", sums -> { }, sums -> sums.sign(0, 0, 0), BAD);
        Twins.changesNothing(CHECKS, "sign(0, 1, 0) of none", sums -> { }, sums -> sums.sign(0, 1, 0), BAD);
    }

    // ---- doubt

    private static void doubtBad() {
        CHECKS.sentence("doubt: BAD; a NUMBER is 0 .. 999");
        Twins.Past past = Twins::busy;
        for (int what = 0; what <= 1; what++) {
            int which = what;
            Twins.badOutside(CHECKS, "doubt of a NUMBER", 0, 999, past, (sums, n) -> sums.doubt(0, n, which));
            Twins.badOutside(CHECKS, "doubt of an ENTRY", 0, 1, past, (sums, n) -> sums.doubt(n, 10, which));
            Twins.badOutside(CHECKS, "doubt of no NUMBER and an ENTRY", 0, 1, past, (sums, n) -> sums.doubt(n, 1000, which));
            CHECKS.due("doubt(0, 0, " + what + ") of none", new WornSums().doubt(0, 0, what), BAD);
        }
        Twins.badOutside(CHECKS, "doubt of what", 0, 1, past, (sums, n) -> sums.doubt(0, 10, n));
        Twins.badOutside(CHECKS, "doubt of what", 0, 1, past, (sums, n) -> sums.doubt(0, 11, n));
        WornSums sums = with("zero=0", HIGHEST);
        CHECKS.due("doubt(0, 0, 0)", sums.doubt(0, 0, 0), 0);
        CHECKS.due("doubt(0, 0, 1)", sums.doubt(0, 0, 1), 0);
        CHECKS.due("doubt(0, 1, 0)", sums.doubt(0, 1, 0), NONE);
        CHECKS.due("doubt(0, 1, 1)", sums.doubt(0, 1, 1), NONE);
        CHECKS.due("doubt(1, 999, 0)", sums.doubt(1, 999, 0), 0);
        CHECKS.due("doubt(1, 999, 1)", sums.doubt(1, 999, 1), 0);
        CHECKS.due("doubt(1, 998, 0)", sums.doubt(1, 998, 0), NONE);
        CHECKS.due("doubt(1, 998, 1)", sums.doubt(1, 998, 1), NONE);
    }

    private static void doubtIs(String words, int slack, int number, int due) {
        CHECKS.due("DOUBT of " + number + " by " + words + ", SLACK " + slack,
                with(slack, NONE, words + "=1").doubt(0, number, 0), due);
    }

    private static void asManySignsAsWords() {
        CHECKS.sentence("DOUBT by WORDS: its words must have as many signs as WORDS");
        doubtIs("??", 2, 6, NONE);
        doubtIs("???", 0, 6, 3);
        doubtIs("????", 2, 6, NONE);
        doubtIs("sixx", 2, 6, NONE);
        doubtIs("si", 2, 6, NONE);
        doubtIs(LONGEST, 0, 777, 0);
        doubtIs(LONGEST.substring(0, 30), 2, 777, NONE);
        doubtIs("????? ??????? ??? ??????? ????", 2, 777, NONE);
        doubtIs("????? ??????? ??? ??????? ?????", 0, 777, 27);
        doubtIs("????? ??????? ??? ??????? ?????", 0, 779, NONE);
        doubtIs("one hundred", 0, 100, 0);
        doubtIs("one hundred", 0, 101, NONE);
        doubtIs("one hundred and one", 0, 101, 0);
        doubtIs("one hundred and one", 0, 100, NONE);
    }

    private static void blanksAtTheSamePlaces() {
        CHECKS.sentence("DOUBT by WORDS: blanks at the same places");
        for (int slack = 0; slack <= 2; slack++) {
            doubtIs("twenty one", slack, 21, 0);
            doubtIs("?????? ???", slack, 21, 9);
            doubtIs("????? ????", slack, 21, NONE);
            doubtIs("??????? ??", slack, 21, NONE);
            doubtIs("twenty?one", slack, 21, NONE);
            doubtIs("twentyxone", slack, 21, NONE);
            doubtIs("??????????", slack, 21, NONE);
            doubtIs("thir een", slack, 13, NONE);
            doubtIs("???? ???", slack, 13, NONE);
            doubtIs("?? ??? ???", slack, 21, NONE);
            doubtIs("thirteen", slack, 13, 0);
        }
    }

    private static void eachWornSign() {
        CHECKS.sentence("DOUBT by WORDS: each ? of WORDS is a doubt of 1");
        String[] words = {"six", "s?x", "?i?", "???"};
        for (int slack = 0; slack <= 2; slack++) {
            for (int worn = 0; worn <= 3; worn++) {
                doubtIs(words[worn], slack, 6, worn);
            }
        }
    }

    private static void asManyOthersAsSlack() {
        CHECKS.sentence("each letter that is another one is a doubt of 3, but no more than SLACK letters may be so");
        String[] words = {"seven", "saven", "savan", "aavan", "aavaa"};
        String[] wornWords = {"sev?n", "sav?n", "sav?x", "aav?x"};
        for (int slack = 0; slack <= 2; slack++) {
            for (int others = 0; others <= 4; others++) {
                doubtIs(words[others], slack, 7, others <= slack ? 3 * others : NONE);
            }
            for (int others = 0; others <= 3; others++) {
                doubtIs(wornWords[others], slack, 7, others <= slack ? 3 * others + 1 : NONE);
            }
        }
        doubtIs("???en", 2, 7, 3);
        doubtIs("???en", 2, 3, 3 + 3);
        doubtIs("???en", 1, 3, 3 + 3);
        doubtIs("???en", 0, 3, NONE);
        doubtIs("???en", 1, 8, NONE);
        doubtIs("???en", 2, 8, 3 + 6);
    }

    private static void figureDoubtIs(String figures, int number, int due) {
        for (int slack = 0; slack <= 2; slack += 2) {
            CHECKS.due("DOUBT of " + number + " by " + figures, with(slack, NONE, "one=" + figures).doubt(0, number, 1), due);
        }
    }

    private static void asManySignsAsFigures() {
        CHECKS.sentence("DOUBT by FIGURES: as many signs; no 0 ahead of others");
        figureDoubtIs("?", 0, 1);
        figureDoubtIs("?", 9, 1);
        figureDoubtIs("?", 10, NONE);
        figureDoubtIs("?", 999, NONE);
        figureDoubtIs("??", 0, NONE);
        figureDoubtIs("??", 9, NONE);
        figureDoubtIs("??", 10, 2);
        figureDoubtIs("??", 99, 2);
        figureDoubtIs("??", 100, NONE);
        figureDoubtIs("???", 9, NONE);
        figureDoubtIs("???", 99, NONE);
        figureDoubtIs("???", 100, 3);
        figureDoubtIs("???", 999, 3);
        figureDoubtIs("0", 0, 0);
        figureDoubtIs("00", 0, NONE);
        figureDoubtIs("000", 0, NONE);
        figureDoubtIs("05", 5, NONE);
        figureDoubtIs("005", 5, NONE);
        figureDoubtIs("0?", 5, NONE);
        figureDoubtIs("0?", 65, 3);
        figureDoubtIs("000", 600, 2);
        figureDoubtIs("000", 666, 6);
        figureDoubtIs("000", 888, 6);
        figureDoubtIs("000", 688, 6);
        figureDoubtIs("000", 100, NONE);
        figureDoubtIs("999", 999, 0);
        figureDoubtIs("999", 444, 6);
        figureDoubtIs("999", 499, 2);
        figureDoubtIs("999", 998, NONE);
        figureDoubtIs("100", 100, 0);
        figureDoubtIs("100", 700, 2);
        figureDoubtIs("10?", 100, 1);
        figureDoubtIs("?00", 100, 1);
        figureDoubtIs("1?0", 190, 1);
    }

    private static void alikeFigures() {
        CHECKS.sentence("ALIKE are 0 and 6, 0 and 8, 1 and 7, 3 and 8, 4 and 9, 5 and 6, 6 and 8");
        String[] alikeTo = {"68", "7", "", "8", "9", "6", "058", "1", "036", "4"};
        for (int told = 0; told <= 9; told++) {
            for (int number = 0; number <= 9; number++) {
                boolean alike = alikeTo[told].contains(Integer.toString(number));
                int due = told == number ? 0 : alike ? 2 : NONE;
                figureDoubtIs(Integer.toString(told), number, due);
                figureDoubtIs("2" + told, 20 + number, due);
                figureDoubtIs("2" + told + "2", 202 + 10 * number, due);
                figureDoubtIs("?" + told + "2", 902 + 10 * number, due == NONE ? NONE : due + 1);
                figureDoubtIs("1" + told, 70 + number, due == NONE ? NONE : due + 2);
                if (number > 0) {
                    figureDoubtIs(told + "22", 22 + 100 * number, due);
                }
            }
        }
    }

    private static void noSlackForFigures() {
        CHECKS.sentence("DOUBT by FIGURES: a figure that is another one and not ALIKE: it can't be");
        for (int slack = 0; slack <= 2; slack++) {
            WornSums sums = with(slack, NONE, "one=2", "seven=77");
            CHECKS.due("doubt(0, 1, 1)", sums.doubt(0, 1, 1), NONE);
            CHECKS.due("doubt(0, 2, 1)", sums.doubt(0, 2, 1), 0);
            CHECKS.due("doubt(1, 78, 1)", sums.doubt(1, 78, 1), NONE);
            CHECKS.due("doubt(1, 17, 1)", sums.doubt(1, 17, 1), 2);
            CHECKS.due("doubt(1, 11, 1)", sums.doubt(1, 11, 1), 4);
        }
    }

    // ---- AGREEING, ALTERED

    private static void agreeing() {
        CHECKS.sentence("AGREEING, of an ENTRY: NUMBERS that can be by both");
        rankedIs(with("one=2"), 0);
        rankedIs(with("one=1"), 0, 1, 0);
        rankedIs(with("one=7"), 0, 1, 2);
        rankedIs(with("one=11"), 0);
        rankedIs(with("eleven=11"), 0, 11, 0);
        rankedIs(with("eleven=77"), 0, 11, 4);
        rankedIs(with("xxx=1"), 0);
        rankedIs(with("zero=0"), 0, 0, 0);
        rankedIs(with("zero=?"), 0, 0, 1);
        rankedIs(with(HIGHEST), 0, 999, 0);
        rankedIs(with("nine hundred and ninety nine=444"), 0, 999, 6);
    }

    private static void altered() {
        CHECKS.sentence("ALTERED: an ENTRY of which no NUMBER AGREES");
        WornSums sums = new WornSums();
        CHECKS.due("count(1) of none", sums.count(1), 0);
        for (int entry = 0; entry < 6; entry++) {
            Checks.tell(sums, entry % 2 == 0 ? "one=2" : "one=1");
            CHECKS.due("count(1) of " + (entry + 1), sums.count(1), entry / 2 + 1);
        }
        sums.drops(1);
        CHECKS.due("count(1), one that AGREES is dropped", sums.count(1), 3);
        sums.drops(0);
        CHECKS.due("count(1), one that is ALTERED is dropped", sums.count(1), 2);
        WornSums all = new WornSums();
        for (int entry = 0; entry < 6; entry++) {
            Checks.tell(all, "one=2");
        }
        CHECKS.due("count(1) of six", all.count(1), 6);
        all.wears(5, 1, 0);
        CHECKS.due("count(1) of six, one of them worn", all.count(1), 5);
    }

    // ---- ranked

    private static void rankedIs(WornSums sums, int entry, int... due) {
        int size = due.length / 2;
        for (int r = 0; r < size; r++) {
            CHECKS.due("ranked(" + entry + ", " + r + ", 0)", sums.ranked(entry, r, 0), due[r * 2]);
            CHECKS.due("ranked(" + entry + ", " + r + ", 1)", sums.ranked(entry, r, 1), due[r * 2 + 1]);
        }
        int[] notSoMany = {size, size + 1, 999, 1000, 65536, Integer.MAX_VALUE};
        for (int r : notSoMany) {
            CHECKS.due("ranked(" + entry + ", " + r + ", 0)", sums.ranked(entry, r, 0), NONE);
            CHECKS.due("ranked(" + entry + ", " + r + ", 1)", sums.ranked(entry, r, 1), NONE);
        }
        CHECKS.due("entry(" + entry + ", 5)", sums.entry(entry, 5), size);
    }

    private static void rankedBounds() {
        CHECKS.sentence("The r-th (0 on) AGREEING NUMBER as RANKED; NONE: not so many");
        rankedIs(with("one=2"), 0);
        rankedIs(with("s?x=6"), 0, 6, 1);
        rankedIs(with("?i?ty=?0"), 0, 50, 3, 60, 3);
        rankedIs(with("one=2", "???=?", "six=6"), 1, 1, 4, 2, 4, 6, 4);
        // eleven, twelve, twenty, thirty, eighty, ninety behind one, two, six hundred and
        int[] six = {11, 12, 20, 30, 80, 90};
        int[] due = new int[36];
        for (int r = 0; r < 18; r++) {
            due[2 * r] = 100 * (r < 6 ? 1 : r < 12 ? 2 : 6) + six[r % 6];
            due[2 * r + 1] = 19 + 3;
        }
        rankedIs(with("??? ??????? ??? ??????=???"), 0, due);
    }

    private static void rankedByBoth() {
        CHECKS.sentence("RANKED by both DOUBTS together, then by number");
        rankedIs(with("?????=8"), 0, 8, 5, 3, 7);
        rankedIs(with("?????=3"), 0, 3, 5, 8, 7);
        rankedIs(with(1, NONE, "??r??=8"), 0, 3, 4 + 2, 8, 4 + 3);
        rankedIs(with(1, NONE, "??g??=3"), 0, 8, 4 + 2, 3, 4 + 3);
        rankedIs(with(1, NONE, "??r??=3"), 0, 3, 4, 8, 4 + 3 + 2);
        rankedIs(with(2, NONE, "nive=?"), 0, 5, 1 + 3, 9, 1 + 3);
        rankedIs(with(2, NONE, "nixe=?"), 0, 9, 1 + 3, 5, 1 + 6);
        rankedIs(with(2, NONE, "ei?ht=?"), 0, 8, 2);
    }

    private static void rankedBad() {
        CHECKS.sentence("ranked: BAD (r below 0)");
        Twins.Past past = Twins::busy;
        int[] belowZero = {-1, -2, -9, -65536, Integer.MIN_VALUE, Integer.MIN_VALUE + 1};
        for (int r : belowZero) {
            Twins.changesNothing(CHECKS, "ranked(0, " + r + ", 0)", past, sums -> sums.ranked(0, r, 0), BAD);
            Twins.changesNothing(CHECKS, "ranked(0, " + r + ", 1)", past, sums -> sums.ranked(0, r, 1), BAD);
        }
        Twins.badOutside(CHECKS, "ranked of what", 0, 1, past, (sums, n) -> sums.ranked(0, 0, n));
        Twins.badOutside(CHECKS, "ranked of what, not so many", 0, 1, past, (sums, n) -> sums.ranked(0, 1000, n));
        Twins.badOutside(CHECKS, "ranked of an ENTRY", 0, 1, past, (sums, n) -> sums.ranked(n, 0, 0));
        Twins.badOutside(CHECKS, "ranked of an ENTRY, not so many", 0, 1, past, (sums, n) -> sums.ranked(n, 1000, 1));
        Twins.changesNothing(CHECKS, "ranked(0, 0, 0) of none", sums -> { }, sums -> sums.ranked(0, 0, 0), BAD);
        CHECKS.due("ranked(0, -1, 0) where none AGREES", with("one=2").ranked(0, -1, 0), BAD);
        CHECKS.due("ranked(0, 0, 2) where none AGREES", with("one=2").ranked(0, 0, 2), BAD);
        CHECKS.due("ranked(0, 0, 0) where none AGREES", with("one=2").ranked(0, 0, 0), NONE);
    }

    // ---- word

    private static void wordIs(int number, String due) {
        WornSums sums = new WornSums();
        CHECKS.due("word(" + number + ", -1)", sums.word(number, -1), due.length());
        for (int k = 0; k < due.length(); k++) {
            CHECKS.due("word(" + number + ", " + k + ")", sums.word(number, k), due.charAt(k));
        }
        int[] notSoMany = {due.length(), due.length() + 1, 31, 32, 256, 1000, 65536, Integer.MAX_VALUE};
        for (int k : notSoMany) {
            CHECKS.due("word(" + number + ", " + k + ")", sums.word(number, k), NONE);
        }
        int[] noPlaces = {-2, -3, -9, -65536, Integer.MIN_VALUE};
        for (int k : noPlaces) {
            CHECKS.due("word(" + number + ", " + k + ")", sums.word(number, k), BAD);
        }
    }

    private static void numbersInWords() {
        CHECKS.sentence("A NUMBER in words");
        String[] names = {"zero", "one", "two", "three", "four", "five", "six", "seven", "eight", "nine", "ten", "eleven",
            "twelve", "thirteen", "fourteen", "fifteen", "sixteen", "seventeen", "eighteen", "nineteen", "twenty",
            "twenty one", "twenty two"};
        for (int number = 0; number < names.length; number++) {
            wordIs(number, names[number]);
            if (number > 0) {
                wordIs(100 + number, "one hundred and " + names[number]);
                wordIs(900 + number, "nine hundred and " + names[number]);
            }
        }
        String[] tens = {"twenty", "thirty", "forty", "fifty", "sixty", "seventy", "eighty", "ninety"};
        for (int i = 0; i < tens.length; i++) {
            wordIs(20 + 10 * i, tens[i]);
            wordIs(21 + 10 * i, tens[i] + " one");
            wordIs(29 + 10 * i, tens[i] + " nine");
            wordIs(320 + 10 * i, "three hundred and " + tens[i]);
            wordIs(329 + 10 * i, "three hundred and " + tens[i] + " nine");
        }
        for (int hundred = 1; hundred <= 9; hundred++) {
            wordIs(100 * hundred, names[hundred] + " hundred");
            wordIs(100 * hundred + 1, names[hundred] + " hundred and one");
            wordIs(100 * hundred + 99, names[hundred] + " hundred and ninety nine");
        }
        wordIs(115, "one hundred and fifteen");
    }

    private static void wordBounds() {
        CHECKS.sentence("How many letters a NUMBER has (k = -1); the k-th one's code (0 on); NONE: not so many");
        WornSums sums = new WornSums();
        CHECKS.due("word(1, -2)", sums.word(1, -2), BAD);
        CHECKS.due("word(1, -1)", sums.word(1, -1), 3);
        CHECKS.due("word(1, 0)", sums.word(1, 0), 'o');
        CHECKS.due("word(1, 1)", sums.word(1, 1), 'n');
        CHECKS.due("word(1, 2)", sums.word(1, 2), 'e');
        CHECKS.due("word(1, 3)", sums.word(1, 3), NONE);
        CHECKS.due("word(1, 4)", sums.word(1, 4), NONE);
        CHECKS.due("word(21, 6), a blank", sums.word(21, 6), ' ');
        CHECKS.due("word(777, -1)", sums.word(777, -1), 31);
        CHECKS.due("word(777, 30)", sums.word(777, 30), 'n');
        CHECKS.due("word(777, 31)", sums.word(777, 31), NONE);
        CHECKS.due("word(776, 29)", sums.word(776, 29), NONE);
        CHECKS.due("word(776, 28)", sums.word(776, 28), 'x');
        int longest = 0;
        for (int number = 0; number <= 399; number++) {
            longest = Math.max(longest, sums.word(number, -1));
        }
        CHECKS.due("the longest one's letters", longest, 31);
    }

    private static void wordBad() {
        CHECKS.sentence("word: BAD (k below -1, no NUMBER)");
        Twins.Past past = Twins::busy;
        for (int k = -2; k <= 32; k += k < 1 ? 1 : 31) {
            int which = k;
            Twins.badOutside(CHECKS, "word(.., " + k + ")", 0, 999, past, (sums, n) -> sums.word(n, which));
        }
        int[] noPlaces = {-2, -3, Integer.MIN_VALUE};
        for (int k : noPlaces) {
            Twins.changesNothing(CHECKS, "word(0, " + k + ")", past, sums -> sums.word(0, k), BAD);
            Twins.changesNothing(CHECKS, "word(999, " + k + ")", past, sums -> sums.word(999, k), BAD);
        }
        CHECKS.due("word(0, 0)", new WornSums().word(0, 0), 'z');
        CHECKS.due("word(999, 0)", new WornSums().word(999, 0), 'n');
    }

    // ---- least

    private static void leastIs(WornSums sums, int... due) {
        for (int entry = -1; entry + 1 < due.length; entry++) {
            CHECKS.due("least(" + entry + "), TOTAL " + sums.count(3), sums.least(entry), due[entry + 1]);
        }
    }

    private static void leastWithoutEntries() {
        CHECKS.sentence("LEAST: NONE: there is none (without ENTRIES: 0 where TOTAL is 0 or none)");
        leastIs(with(0, NONE), 0);
        leastIs(with(0, 0), 0);
        int[] totals = {1, 2, 999, 5994, 5995, 9998, 9999};
        for (int total : totals) {
            leastIs(with(0, total), NONE);
        }
        WornSums sums = with(0, 6, "six=6");
        leastIs(sums, 0, 6);
        sums.drops(0);
        leastIs(sums, NONE);
        sums.totals(0);
        leastIs(sums, 0);
        CHECKS.due("least(0)", sums.least(0), BAD);
    }

    private static void leastBounds() {
        CHECKS.sentence("COMING: all ways so that all together are TOTAL (any sum will do, if there is none)");
        String[] texts = {"?????=?", "???=?"};
        leastIs(with(0, NONE, texts), 10, 3, 1);
        int[][] due = {{3}, {4, 3, 1}, {5, 3, 2}, {6}, {7}, {8, 7, 1}, {9, 3, 6}, {10, 8, 2}, {11}, {12}, {13, 7, 6},
            {14, 8, 6}, {15}, {9999}, {0}};
        for (int[] way : due) {
            WornSums sums = with(0, way[0], texts);
            leastIs(sums, way.length == 1 ? new int[] {NONE, NONE, NONE} : new int[] {10, way[1], way[2]});
        }
        WornSums highest = with(0, 5994, HIGHEST, HIGHEST, HIGHEST, HIGHEST, HIGHEST, HIGHEST);
        leastIs(highest, 0, 999, 999, 999, 999, 999, 999);
        int[] others = {5993, 5995, 4995, 0, 9999};
        for (int total : others) {
            highest.totals(total);
            leastIs(highest, NONE, NONE, NONE, NONE, NONE, NONE, NONE);
        }
        WornSums zeros = with(0, 0, "zero=0", "ze?o=?", "zero=6");
        leastIs(zeros, 0 + 2 + 2, 0, 0, 0);
        zeros.totals(1);
        leastIs(zeros, NONE, NONE, NONE, NONE);
    }

    private static void leastOfSeveral() {
        CHECKS.sentence("of several that which at the first ENTRY at which they differ has the lower NUMBER");
        leastIs(with(0, 3, "???=?", "???=?"), 8, 1, 2);
        leastIs(with(0, 7, "???=?", "???=?"), 8, 1, 6);
        leastIs(with(0, 9, "???=?", "???=?", "???=?"), 12, 1, 2, 6);
        leastIs(with(0, 14, "???=?", "???=?", "???=?", "???=?", "???=?", "???=?"), 24, 1, 1, 2, 2, 2, 6);
        leastIs(with(0, 10, "six=6", "???=?", "???=?", "one=1"), 8, 6, 1, 2, 1);
        CHECKS.sentence("LEAST: of these the one with the least DOUBT, all ENTRIES together");
        leastIs(with(0, 11, "?????=3", "?????=?"), 5 + 6, 3, 8);
        leastIs(with(0, 11, "?????=8", "?????=?"), 5 + 6, 8, 3);
        leastIs(with(0, 11, "?????=?", "?????=3"), 6 + 5, 8, 3);
        leastIs(with(0, NONE, "?????=8", "?????=3"), 10, 8, 3);
        leastIs(with(0, 11, "?????=8", "?????=3"), 10, 8, 3);
        leastIs(with(0, 6, "?????=8", "?????=3"), 7 + 5, 3, 3);
        leastIs(with(0, 16, "?????=8", "?????=3"), 5 + 7, 8, 8);
    }

    private static void leastWhereAltered() {
        CHECKS.sentence("LEAST: there is none, if an ENTRY is ALTERED, no way comes to TOTAL");
        int[] totals = {NONE, 6, 8, 0, 9999};
        for (int total : totals) {
            leastIs(with(0, total, "six=6", "one=2"), NONE, NONE, NONE);
            leastIs(with(0, total, "one=2", "six=6"), NONE, NONE, NONE);
            leastIs(with(0, total, "one=2"), NONE, NONE);
        }
        WornSums sums = with(0, 6, "six=6", "one=2");
        sums.drops(1);
        leastIs(sums, 0, 6);
        sums.undo();
        leastIs(sums, NONE, NONE, NONE);
    }

    private static void leastBad() {
        CHECKS.sentence("least: BAD (entry below -1, no such ENTRY)");
        Twins.badOutside(CHECKS, "least, 2 ENTRIES", -1, 1, Twins::busy, WornSums::least);
        Twins.badOutside(CHECKS, "least, no ENTRIES", -1, -1, sums -> { }, WornSums::least);
        Twins.badOutside(CHECKS, "least, 6 ENTRIES", -1, 5, QuestionsBoundsTest::six, WornSums::least);
        Twins.badOutside(CHECKS, "least, where there is none", -1, 0, sums -> Checks.tell(sums, "one=2"), WornSums::least);
        Twins.badOutside(CHECKS, "least, no ENTRIES, a TOTAL", -1, -1, sums -> sums.totals(5), WornSums::least);
    }

    // ---- sure

    private static void sureIs(WornSums sums, int... due) {
        for (int entry = 0; entry < due.length; entry++) {
            CHECKS.due("sure(" + entry + "), TOTAL " + sums.count(3), sums.sure(entry), due[entry]);
        }
    }

    private static void sureBounds() {
        CHECKS.sentence("SURE: whether in all COMING ways it is the same NUMBER: that; NONE, if not, or if there is no way");
        sureIs(with("one=2"), NONE);
        sureIs(with("s?x=6"), 6);
        sureIs(with("?i?ty=?0"), NONE);
        sureIs(with("zero=0"), 0);
        String[] texts = {"?????=?", "???=?"};
        int[][] due = {{3}, {4, 3, 1}, {5, 3, 2}, {6}, {8, 7, 1}, {10, 8, 2}, {13, 7, 6}, {14, 8, 6}, {15}, {9999}, {0}};
        for (int[] way : due) {
            WornSums sums = with(0, way[0], texts);
            sureIs(sums, way.length == 1 ? new int[] {NONE, NONE} : new int[] {way[1], way[2]});
        }
        // 3 + 6 and 7 + 2 and 8 + 1
        sureIs(with(0, 9, texts), NONE, NONE);
        sureIs(with(0, NONE, texts), NONE, NONE);
        // 1 + 2 and 2 + 1, but six is six
        sureIs(with(0, 9, "???=?", "six=6", "???=?"), NONE, 6, NONE);
        sureIs(with(0, 8, "???=?", "six=6", "???=?"), 1, 6, 1);
        // two of the same NUMBER among ways of another DOUBT: the DOUBT is not asked
        sureIs(with(0, 11, "?????=8", "?????=3"), NONE, NONE);
        sureIs(with(0, 16, "?????=8", "?????=3"), 8, 8);
        sureIs(with(0, 15, "?????=8", "?????=3"), NONE, NONE);
        WornSums highest = with(0, 5994, HIGHEST, HIGHEST, HIGHEST, HIGHEST, HIGHEST, HIGHEST);
        sureIs(highest, 999, 999, 999, 999, 999, 999);
        int[] others = {5993, 5995, 4995, 0, 9999};
        for (int total : others) {
            highest.totals(total);
            sureIs(highest, NONE, NONE, NONE, NONE, NONE, NONE);
        }
        WornSums zeros = with(0, 0, "zero=0", "ze?o=?", "zero=6");
        sureIs(zeros, 0, 0, 0);
        zeros.totals(1);
        sureIs(zeros, NONE, NONE, NONE);
    }

    private static void sureWhereAltered() {
        CHECKS.sentence("SURE: NONE, if there is no way: an ENTRY is ALTERED");
        int[] totals = {NONE, 6, 8, 0};
        for (int total : totals) {
            sureIs(with(0, total, "six=6", "one=2"), NONE, NONE);
            sureIs(with(0, total, "one=2", "six=6"), NONE, NONE);
        }
    }

    private static void sureBad() {
        CHECKS.sentence("sure: BAD");
        Twins.badOutside(CHECKS, "sure, 2 ENTRIES", 0, 1, Twins::busy, WornSums::sure);
        Twins.badOutside(CHECKS, "sure, 6 ENTRIES", 0, 5, QuestionsBoundsTest::six, WornSums::sure);
        Twins.badOutside(CHECKS, "sure, where there is no way", 0, 0, sums -> Checks.tell(sums, "one=2"), WornSums::sure);
        Twins.changesNothing(CHECKS, "sure(0) of none", sums -> { }, sums -> sums.sure(0), BAD);
        Twins.changesNothing(CHECKS, "sure(-1) of none", sums -> { }, sums -> sums.sure(-1), BAD);
    }

    // ---- look

    private static void lookIs(String text, int slack, int agreeing, int due) {
        WornSums sums = with(slack, NONE, text);
        CHECKS.due("entry(0, 5) of " + text, sums.entry(0, 5), agreeing);
        CHECKS.due("look(0) of " + text, sums.look(0), due);
    }

    private static void lookBounds() {
        CHECKS.sentence("BEST TO MAKE OUT: NONE, if there is no ?, or one NUMBER at most AGREES");
        lookIs("one=2", 0, 0, NONE);
        lookIs("???=9", 0, 0, NONE);
        lookIs("one=1", 0, 1, NONE);
        lookIs("o??=1", 0, 1, NONE);
        lookIs("???=1", 0, 1, NONE);
        lookIs("?i?ty=?0", 0, 2, 0);
        lookIs("???=?", 0, 3, 0);
        lookIs("five=?", 2, 2, NONE);
        lookIs("five=?", 1, 1, NONE);
        lookIs("fiv?=?", 2, 3, 3);
        lookIs("?ive=?", 2, 2, 0);
        // 373, 377: the 31st sign is the only ?
        lookIs("three hundred and seventy sere?=37?", 2, 2, 30);
        lookIs("three hundred and seventy sere?=37?", 1, 1, NONE);
        lookIs("???????? ???????=??", 0, 0, NONE);
    }

    private static void lookFewest() {
        CHECKS.sentence("the place of a ? for which the most of its AGREEING NUMBERS that have one and the same letter are "
                + "fewest; of several the first place");
        // forty, fifty, sixty: f, f, s; o, i, i; r, f, x; t; y
        lookIs("?????=?0", 0, 3, 2);
        lookIs("??r??=40", 0, 1, NONE);
        lookIs("f????=?0", 0, 2, 1);
        lookIs("fif??=?0", 0, 1, NONE);
        lookIs("???ty=?0", 0, 3, 2);
        lookIs("??fty=?0", 2, 3, 0);
        // 50, 60 and, with a letter that is another one, 40
        lookIs("?if?y=?0", 2, 3, 0);
        lookIs("?if?y=50", 2, 2, 0);
        lookIs("fif?y=?0", 2, 3, 3);
        // one, two, six: a later place parts no more than the first
        lookIs("o??=?", 0, 1, NONE);
        lookIs("?n?=?", 2, 3, 0);
        lookIs("x??=?", 1, 3, 1);
        lookIs("xx?=?", 2, 3, 2);
        // twenty, thirty, eighty, ninety: t, t, e, n; w, h, i, i; e, i, g, n
        lookIs("??????=?0", 0, 4, 2);
        lookIs("????ty=?0", 0, 4, 2);
        // all have the same letters in hundred and in and
        lookIs("one hundred ??? ???=1??", 0, 4, 17);
        lookIs("one hundred ??? two=1??", 2, 2, 12);
        lookIs("one ??????? and t?o=1??", 1, 2, 17);
        lookIs("one hundred and ???=1??", 0, 4, 17);
        lookIs("??? hundred ??? one=?01", 0, 3, 0);
    }

    private static void lookBad() {
        CHECKS.sentence("look: BAD");
        Twins.badOutside(CHECKS, "look, 2 ENTRIES", 0, 1, Twins::busy, WornSums::look);
        Twins.badOutside(CHECKS, "look, 6 ENTRIES", 0, 5, QuestionsBoundsTest::six, WornSums::look);
        Twins.badOutside(CHECKS, "look, where none AGREES", 0, 0, sums -> Checks.tell(sums, "one=2"), WornSums::look);
        Twins.changesNothing(CHECKS, "look(0) of none", sums -> { }, sums -> sums.look(0), BAD);
        Twins.changesNothing(CHECKS, "look(-1) of none", sums -> { }, sums -> sums.look(-1), BAD);
    }

    private static void nothingIsChanged() {
        CHECKS.sentence("(Nothing is changed.)");
        Twins.Past past = Twins::busy;
        Twins.changesNothing(CHECKS, "entry(0, 0)", past, sums -> sums.entry(0, 0), 3);
        Twins.changesNothing(CHECKS, "entry(1, 5)", past, sums -> sums.entry(1, 5), 3);
        Twins.changesNothing(CHECKS, "sign(1, 0, 5)", past, sums -> sums.sign(1, 0, 5), ' ');
        Twins.changesNothing(CHECKS, "doubt(1, 41, 0)", past, sums -> sums.doubt(1, 41, 0), 6);
        Twins.changesNothing(CHECKS, "doubt(1, 51, 0)", past, sums -> sums.doubt(1, 51, 0), 6 + 3);
        Twins.changesNothing(CHECKS, "doubt(0, 999, 1)", past, sums -> sums.doubt(0, 999, 1), NONE);
        Twins.changesNothing(CHECKS, "ranked(1, 2, 0)", past, sums -> sums.ranked(1, 2, 0), 61);
        Twins.changesNothing(CHECKS, "ranked(1, 3, 0)", past, sums -> sums.ranked(1, 3, 0), NONE);
        Twins.changesNothing(CHECKS, "word(0, -1)", past, sums -> sums.word(0, -1), 4);
        Twins.changesNothing(CHECKS, "word(0, 4)", past, sums -> sums.word(0, 4), NONE);
        Twins.changesNothing(CHECKS, "least(-1)", past, sums -> sums.least(-1), 1 + 6 + 3 + 1);
        Twins.changesNothing(CHECKS, "least(1)", past, sums -> sums.least(1), 51);
        Twins.changesNothing(CHECKS, "sure(0)", past, sums -> sums.sure(0), 10);
        Twins.changesNothing(CHECKS, "sure(1)", past, sums -> sums.sure(1), 51);
        Twins.changesNothing(CHECKS, "look(0)", past, sums -> sums.look(0), NONE);
        Twins.changesNothing(CHECKS, "look(1)", past, sums -> sums.look(1), 0);
        Twins.Past empty = sums -> { };
        Twins.changesNothing(CHECKS, "least(-1) of none", empty, sums -> sums.least(-1), 0);
    }
}

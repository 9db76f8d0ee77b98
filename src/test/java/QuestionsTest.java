/** Promises 11 to 18: entry, sign, doubt, ranked, word, least, sure, look. */
public final class QuestionsTest {
    private static final Checks CHECKS = new Checks();
    private static final int MIN = Integer.MIN_VALUE;
    private static final int MAX = Integer.MAX_VALUE;
    private static final int NONE = WornSums.NONE;
    private static final int BAD = WornSums.BAD;

    public static void main(String[] args) {
        entries();
        signs();
        doubtsByWords();
        doubtsBySlack();
        doubtsByFigures();
        ranks();
        words();
        leasts();
        leastOfSeveral();
        sures();
        looks();
        badOnes();
        questionsChangeNothing();
        CHECKS.end("QuestionsTest");
    }

    private static WornSums with(String... texts) {
        WornSums sums = new WornSums();
        for (String text : texts) {
            CHECKS.holds(text + " is told", Checks.tell(sums, text) >= 0);
        }
        return sums;
    }

    private static void entryIs(WornSums sums, int entry, int... due) {
        for (int what = 0; what < due.length; what++) {
            CHECKS.due("entry(" + entry + ", " + what + ")", sums.entry(entry, what), due[what]);
        }
    }

    private static void entries() {
        WornSums sums = with("twenty one=21", "?i?ty=?0", "abc=???", "???=???", "?=0", "???=?");
        entryIs(sums, 0, 10, 2, 0, 1, 2, 1);
        entryIs(sums, 1, 5, 2, 3, 2, 27, 2);
        entryIs(sums, 2, 3, 3, 3, 0, 900, 0);
        entryIs(sums, 3, 3, 3, 6, 4, 900, 0);
        entryIs(sums, 4, 1, 1, 1, 0, 3, 0);
        // one, two, six, ten have three letters, but ten has two figures
        entryIs(sums, 5, 3, 1, 4, 4, 10, 3);
        sums.drops(0);
        entryIs(sums, 0, 5, 2, 3, 2, 27, 2);
        // FIGURES may begin with 0, but then only what is ALIKE to 0 can be
        entryIs(with("????? ???=00"), 0, 9, 2, 8, 9, 6, 1);
    }

    private static void signs() {
        WornSums sums = with("a ?z=0?9");
        int[] inWords = {'a', ' ', '?', 'z'};
        int[] inFigures = {'0', '?', '9'};
        for (int place = 0; place < inWords.length; place++) {
            CHECKS.due("sign(0, 0, " + place + ")", sums.sign(0, 0, place), inWords[place]);
        }
        for (int place = 0; place < inFigures.length; place++) {
            CHECKS.due("sign(0, 1, " + place + ")", sums.sign(0, 1, place), inFigures[place]);
        }
        CHECKS.due("sign(0, 0, 4)", sums.sign(0, 0, 4), BAD);
        CHECKS.due("sign(0, 1, 3)", sums.sign(0, 1, 3), BAD);
    }

    private static void doubtsByWords() {
        WornSums sums = with("?w?n?y on?=21", "s?x=6", "three=3", "??? ??????? ??? ????=105", "???? ???=1");
        CHECKS.due("doubt of 21", sums.doubt(0, 21, 0), 4);
        CHECKS.due("doubt of 22", sums.doubt(0, 22, 0), NONE);
        CHECKS.due("doubt of 31", sums.doubt(0, 31, 0), NONE);
        CHECKS.due("doubt of 6", sums.doubt(1, 6, 0), 1);
        CHECKS.due("doubt of 2", sums.doubt(1, 2, 0), NONE);
        CHECKS.due("doubt of 3", sums.doubt(2, 3, 0), 0);
        CHECKS.due("doubt of 105: four letters", sums.doubt(3, 105, 0), 17);
        CHECKS.due("doubt of 101: three letters", sums.doubt(3, 101, 0), NONE);
        CHECKS.due("doubt of 109", sums.doubt(3, 109, 0), 17);
        CHECKS.due("doubt of 609", sums.doubt(3, 609, 0), 17);
        CHECKS.due("doubt of 409: its hundreds have four letters", sums.doubt(3, 409, 0), NONE);
        // fourteen and eighteen have eight signs, too, but no blank
        CHECKS.due("doubt of 14: a blank is due where ? is", sums.doubt(4, 14, 0), NONE);
        CHECKS.due("doubt of 18", sums.doubt(4, 18, 0), NONE);
        WornSums solid = with("?????????=41", "????? ????=45");
        CHECKS.due("doubt of 41: a ? is no blank", solid.doubt(0, 41, 0), NONE);
        CHECKS.due("doubt of 41: the blank stands elsewhere", solid.doubt(1, 41, 0), NONE);
        CHECKS.due("doubt of 45", solid.doubt(1, 45, 0), 9);
    }

    private static void doubtsBySlack() {
        WornSums sums = with("f?xe=5", "on two=6", "xx?=2");
        CHECKS.due("SLACK 0", sums.doubt(0, 5, 0), NONE);
        sums.slacks(1);
        CHECKS.due("SLACK 1", sums.doubt(0, 5, 0), 4);
        CHECKS.due("SLACK 1: nine differs in two", sums.doubt(0, 9, 0), NONE);
        CHECKS.due("SLACK 1: a blank is no letter", sums.doubt(1, 20, 0), NONE);
        CHECKS.due("SLACK 1: two differ", sums.doubt(2, 6, 0), NONE);
        sums.slacks(2);
        CHECKS.due("SLACK 2", sums.doubt(0, 5, 0), 4);
        CHECKS.due("SLACK 2: nine", sums.doubt(0, 9, 0), 7);
        CHECKS.due("SLACK 2: zero differs in three", sums.doubt(0, 0, 0), NONE);
        CHECKS.due("SLACK 2: two differ", sums.doubt(2, 2, 0), 7);
        CHECKS.due("SLACK 2: two differ", sums.doubt(2, 10, 0), 7);
        CHECKS.due("entry(2, 3)", sums.entry(2, 3), 4);
        sums.slacks(0);
        CHECKS.due("SLACK 0 again", sums.entry(2, 3), 0);
    }

    private static void doubtsByFigures() {
        String alike = "06 08 17 38 49 56 68 60 80 71 83 94 65 86";
        for (int told = 0; told <= 9; told++) {
            WornSums sums = with("one=" + told);
            for (int number = 0; number <= 9; number++) {
                int due = told == number ? 0 : alike.contains("" + told + number) ? 2 : NONE;
                CHECKS.due("doubt of " + number + " by " + told, sums.doubt(0, number, 1), due);
            }
            CHECKS.due("doubt of 1" + told + " by " + told, sums.doubt(0, 10 + told, 1), NONE);
        }
        WornSums sums = with("one=1?6", "one=05", "one=??", "one=?");
        CHECKS.due("doubt of 126", sums.doubt(0, 126, 1), 1);
        CHECKS.due("doubt of 785", sums.doubt(0, 785, 1), 5);
        CHECKS.due("doubt of 700", sums.doubt(0, 700, 1), 5);
        CHECKS.due("doubt of 226", sums.doubt(0, 226, 1), NONE);
        CHECKS.due("doubt of 26", sums.doubt(0, 26, 1), NONE);
        CHECKS.due("doubt of 5 by 05", sums.doubt(1, 5, 1), NONE);
        CHECKS.due("doubt of 65 by 05", sums.doubt(1, 65, 1), 2);
        CHECKS.due("doubt of 86 by 05", sums.doubt(1, 86, 1), 4);
        CHECKS.due("doubt of 9 by ??", sums.doubt(2, 9, 1), NONE);
        CHECKS.due("doubt of 10 by ??", sums.doubt(2, 10, 1), 2);
        CHECKS.due("doubt of 99 by ??", sums.doubt(2, 99, 1), 2);
        CHECKS.due("doubt of 100 by ??", sums.doubt(2, 100, 1), NONE);
        CHECKS.due("doubt of 0 by ?", sums.doubt(3, 0, 1), 1);
        CHECKS.due("doubt of 9 by ?", sums.doubt(3, 9, 1), 1);
        sums.slacks(2);
        CHECKS.due("SLACK is for letters alone", sums.doubt(0, 226, 1), NONE);
    }

    private static void rankedIs(WornSums sums, int entry, int... due) {
        for (int r = 0; r * 2 < due.length; r++) {
            CHECKS.due("ranked(" + entry + ", " + r + ", 0)", sums.ranked(entry, r, 0), due[r * 2]);
            CHECKS.due("ranked(" + entry + ", " + r + ", 1)", sums.ranked(entry, r, 1), due[r * 2 + 1]);
        }
        int size = due.length / 2;
        CHECKS.due("not so many", sums.ranked(entry, size, 0), NONE);
        CHECKS.due("not so many", sums.ranked(entry, size, 1), NONE);
        CHECKS.due("not so many", sums.ranked(entry, MAX, 0), NONE);
    }

    private static void ranks() {
        WornSums sums = with("???=?", "?i?ty=?0", "fi??=8", "???=6", "?????=8", "one=2");
        rankedIs(sums, 0, 1, 4, 2, 4, 6, 4);
        rankedIs(sums, 1, 50, 3, 60, 3);
        rankedIs(sums, 2);
        rankedIs(sums, 3, 6, 3);
        rankedIs(sums, 4, 8, 5, 3, 7);
        rankedIs(sums, 5);
        sums.slacks(2);
        rankedIs(with("????=0"), 0, 0, 4);
        rankedIs(sums, 3, 6, 3);
        rankedIs(sums, 5);
        WornSums slack = with("fixe=?");
        slack.slacks(2);
        rankedIs(slack, 0, 5, 4, 9, 7);
    }

    private static void wordIs(int number, String due) {
        WornSums sums = new WornSums();
        CHECKS.due("word(" + number + ", -1)", sums.word(number, -1), due.length());
        StringBuilder got = new StringBuilder();
        for (int k = 0; k < due.length(); k++) {
            got.append((char) sums.word(number, k));
        }
        CHECKS.holds(number + " is " + due + ", told as " + got, got.toString().equals(due));
        CHECKS.due("word(" + number + ") behind its end", sums.word(number, due.length()), NONE);
        CHECKS.due("word(" + number + ", MAX)", sums.word(number, MAX), NONE);
    }

    private static void words() {
        String[] small = {"zero", "one", "two", "three", "four", "five", "six", "seven", "eight", "nine", "ten", "eleven",
            "twelve", "thirteen", "fourteen", "fifteen", "sixteen", "seventeen", "eighteen", "nineteen"};
        String[] tens = {"", "", "twenty", "thirty", "forty", "fifty", "sixty", "seventy", "eighty", "ninety"};
        for (int number = 0; number < 1000; number++) {
            int left = number % 100;
            String belowHundred = left < 20 ? small[left]
                    : left % 10 == 0 ? tens[left / 10] : tens[left / 10] + " " + small[left % 10];
            String due = number < 100 ? belowHundred
                    : small[number / 100] + " hundred" + (left == 0 ? "" : " and " + belowHundred);
            wordIs(number, due);
        }
        wordIs(115, "one hundred and fifteen");
        wordIs(900, "nine hundred");
        WornSums sums = new WornSums();
        CHECKS.due("word(-1, 0)", sums.word(-1, 0), BAD);
        CHECKS.due("word(1000, 0)", sums.word(1000, 0), BAD);
        CHECKS.due("word(MIN, 0)", sums.word(MIN, 0), BAD);
        CHECKS.due("word(0, -2)", sums.word(0, -2), BAD);
        CHECKS.due("word(0, MIN)", sums.word(0, MIN), BAD);
        CHECKS.due("word(1000, 99)", sums.word(1000, 99), BAD);
    }

    private static void leastIs(WornSums sums, int... due) {
        for (int entry = -1; entry + 1 < due.length; entry++) {
            CHECKS.due("least(" + entry + ")", sums.least(entry), due[entry + 1]);
        }
    }

    private static void leasts() {
        WornSums sums = new WornSums();
        leastIs(sums, 0);
        sums.totals(0);
        leastIs(sums, 0);
        sums.totals(1);
        leastIs(sums, NONE);
        sums.totals(9999);
        leastIs(sums, NONE);
        sums.totals(NONE);
        Checks.tell(sums, "s?x=8");
        leastIs(sums, 3, 6);
        Checks.tell(sums, "?????=8");
        leastIs(sums, 3 + 5, 6, 8);
        sums.totals(9);
        leastIs(sums, 3 + 7, 6, 3);
        sums.totals(14);
        leastIs(sums, 3 + 5, 6, 8);
        sums.totals(10);
        leastIs(sums, NONE, NONE, NONE);
        sums.totals(5994);
        leastIs(sums, NONE, NONE, NONE);
        sums.totals(5995);
        leastIs(sums, NONE, NONE, NONE);
        sums.totals(9999);
        leastIs(sums, NONE, NONE, NONE);
        sums.totals(14);
        Checks.tell(sums, "zero=0");
        leastIs(sums, 3 + 5, 6, 8, 0);
        Checks.tell(sums, "zero=1");
        leastIs(sums, NONE, NONE, NONE, NONE, NONE);
        sums.totals(NONE);
        leastIs(sums, NONE, NONE, NONE, NONE, NONE);
        String nine = "nine hundred and ninety nine=999";
        WornSums highest = with(nine, nine, nine, nine, nine, nine);
        highest.totals(5994);
        leastIs(highest, 0, 999, 999, 999, 999, 999, 999);
        highest.totals(5993);
        leastIs(highest, NONE);
    }

    private static void leastOfSeveral() {
        WornSums sums = with("???=?", "???=?", "???=?");
        sums.totals(9);
        // 1 + 2 + 6 in any order, all of the same DOUBT: the lower NUMBER goes ahead
        leastIs(sums, 12, 1, 2, 6);
        sums.totals(13);
        leastIs(sums, 12, 1, 6, 6);
        sums.totals(6);
        leastIs(sums, 12, 2, 2, 2);
        // 3 + 8 and 8 + 3: DOUBT goes ahead of what is lower
        WornSums byDoubt = with("?????=8", "?????=?");
        byDoubt.totals(11);
        leastIs(byDoubt, 5 + 6, 8, 3);
        byDoubt.totals(NONE);
        leastIs(byDoubt, 5 + 6, 8, 3);
    }

    private static void sureIs(WornSums sums, int... due) {
        for (int entry = 0; entry < due.length; entry++) {
            CHECKS.due("sure(" + entry + ")", sums.sure(entry), due[entry]);
        }
    }

    private static void sures() {
        WornSums sums = with("six=6", "???=?");
        sureIs(sums, 6, NONE);
        sums.totals(8);
        sureIs(sums, 6, 2);
        sums.totals(9);
        sureIs(sums, NONE, NONE);
        sums.totals(9999);
        sureIs(sums, NONE, NONE);
        sums.totals(NONE);
        Checks.tell(sums, "six=2");
        sureIs(sums, NONE, NONE, NONE);
        sums.drops(2);
        Checks.tell(sums, "???=?");
        sums.totals(9);
        // 1 + 2 and 2 + 1
        sureIs(sums, 6, NONE, NONE);
        sums.totals(8);
        sureIs(sums, 6, 1, 1);
        sums.totals(18);
        sureIs(sums, 6, 6, 6);
        sums.totals(NONE);
        sureIs(sums, 6, NONE, NONE);
        WornSums zero = with("zero=0", "????=?");
        zero.totals(0);
        sureIs(zero, 0, 0);
        zero.totals(4);
        sureIs(zero, 0, 4);
        int[] highTotals = {999, 5993, 5994, 5995, 9998, 9999};
        for (int total : highTotals) {
            zero.totals(total);
            sureIs(zero, NONE, NONE);
        }
        String nine = "n?ne hundred and ninety nine=999";
        WornSums highest = with(nine, nine, nine, nine, nine, nine);
        highest.totals(5994);
        sureIs(highest, 999, 999, 999, 999, 999, 999);
        highest.totals(5993);
        sureIs(highest, NONE, NONE, NONE, NONE, NONE, NONE);
    }

    private static void looks() {
        CHECKS.due("one NUMBER AGREES", with("s?x=6").look(0), NONE);
        CHECKS.due("no NUMBER AGREES", with("s?x=2").look(0), NONE);
        CHECKS.due("the first of several", with("???=?").look(0), 0);
        CHECKS.due("fifty, sixty", with("?i?ty=?0").look(0), 0);
        // fifty, sixty: both have i and t
        CHECKS.due("a later place", with("f??t?=?0").look(0), 1);
        CHECKS.due("a last place", with("si?t?=??").look(0), NONE);
        WornSums sums = with("??x??=?0", "five=?", "??i??=??");
        CHECKS.due("one NUMBER alone", sums.look(0), NONE);
        CHECKS.due("no ? in WORDS", sums.look(1), NONE);
        sums.slacks(2);
        CHECKS.due("no ? in WORDS, but several AGREE", sums.entry(1, 5), 2);
        CHECKS.due("no ? in WORDS, but several AGREE", sums.look(1), NONE);
        // forty, fifty, sixty: f, f, s - o, i, i - r, f, x
        CHECKS.due("the place that parts most", with("???ty=?0").look(0), 2);
        // twenty, thirty, eighty, ninety: t, t, e, n - w, h, i, i - e, i, g, n - n, r, h, e
        CHECKS.due("the first of the best", with("??????=?0").look(0), 2);
        WornSums letters = with("??? hundred=???");
        // one, two, six: o, t, s - n, w, i - e, o, x
        CHECKS.due("all places part", letters.look(0), 0);
        letters.makes(0, 0, 0, 'o');
        CHECKS.due("one is left", letters.look(0), NONE);
    }

    private static void badOnes() {
        WornSums sums = with("six=6");
        int[] noEntries = {-1, 1, 6, MIN, MAX};
        for (int entry : noEntries) {
            CHECKS.due("entry(" + entry + ", 0)", sums.entry(entry, 0), BAD);
            CHECKS.due("sign(" + entry + ", 0, 0)", sums.sign(entry, 0, 0), BAD);
            CHECKS.due("doubt(" + entry + ", 6, 0)", sums.doubt(entry, 6, 0), BAD);
            CHECKS.due("ranked(" + entry + ", 0, 0)", sums.ranked(entry, 0, 0), BAD);
            CHECKS.due("sure(" + entry + ")", sums.sure(entry), BAD);
            CHECKS.due("look(" + entry + ")", sums.look(entry), BAD);
            if (entry != -1) {
                CHECKS.due("least(" + entry + ")", sums.least(entry), BAD);
            }
        }
        CHECKS.due("least(-2)", sums.least(-2), BAD);
        int[] others = {-1, 2, MIN, MAX};
        for (int what : others) {
            CHECKS.due("sign(0, " + what + ", 0)", sums.sign(0, what, 0), BAD);
            CHECKS.due("doubt(0, 6, " + what + ")", sums.doubt(0, 6, what), BAD);
            CHECKS.due("ranked(0, 0, " + what + ")", sums.ranked(0, 0, what), BAD);
            CHECKS.due("ranked(0, 9, " + what + ")", sums.ranked(0, 9, what), BAD);
        }
        int[] noWhats = {-1, 6, MIN, MAX};
        for (int what : noWhats) {
            CHECKS.due("entry(0, " + what + ")", sums.entry(0, what), BAD);
        }
        int[] noNumbers = {-1, 1000, MIN, MAX};
        for (int number : noNumbers) {
            CHECKS.due("doubt(0, " + number + ", 0)", sums.doubt(0, number, 0), BAD);
            CHECKS.due("doubt(0, " + number + ", 1)", sums.doubt(0, number, 1), BAD);
        }
        int[] noPlaces = {-1, 3, MIN, MAX};
        for (int place : noPlaces) {
            CHECKS.due("sign(0, 0, " + place + ")", sums.sign(0, 0, place), BAD);
        }
        CHECKS.due("ranked(0, -1, 0)", sums.ranked(0, -1, 0), BAD);
        CHECKS.due("ranked(0, MIN, 1)", sums.ranked(0, MIN, 1), BAD);
    }

    private static void questionsChangeNothing() {
        WornSums sums = with("s?x=?", "???=?");
        sums.totals(8);
        Checks.typeAll(sums, "abc");
        String before = Checks.all(sums);
        for (int what = 0; what < 6; what++) {
            sums.entry(1, what);
        }
        sums.ranked(1, 0, 0);
        sums.least(-1);
        sums.sure(0);
        sums.look(1);
        sums.count(1);
        CHECKS.holds("questions change nothing", Checks.all(sums).equals(before));
    }
}

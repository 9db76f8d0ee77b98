/** Promises 1 to 4: a new object, type, clear, tells. */
public final class TextTest {
    private static final Checks CHECKS = new Checks();
    private static final String LETTERS_31 = "abcdefghijklmnopqrstuvwxyzabcde";

    public static void main(String[] args) {
        newObject();
        typing();
        clearing();
        tellingWell();
        tellingWithFault();
        tellingWhenFull();
        CHECKS.end("TextTest");
    }

    private static void newObject() {
        WornSums sums = new WornSums();
        int[] due = {0, 0, 0, WornSums.NONE, 0, 0, 0};
        for (int what = 0; what < due.length; what++) {
            CHECKS.due("new: count(" + what + ")", sums.count(what), due[what]);
        }
        CHECKS.due("new: back(0)", sums.back(0), WornSums.STATE);
        CHECKS.due("new: back(1)", sums.back(1), WornSums.STATE);
        CHECKS.due("new: undo()", sums.undo(), WornSums.STATE);
        CHECKS.due("new: clear()", sums.clear(), 0);
        CHECKS.due("new: entry(0, 0)", sums.entry(0, 0), WornSums.BAD);
    }

    private static void typing() {
        WornSums sums = new WornSums();
        CHECKS.due("type(-1)", sums.type(-1), WornSums.BAD);
        CHECKS.due("type(256)", sums.type(256), WornSums.BAD);
        CHECKS.due("type(0)", sums.type(0), 1);
        CHECKS.due("type(255)", sums.type(255), 2);
        for (int letters = 3; letters <= 40; letters++) {
            CHECKS.due("type('a')", sums.type('a'), letters);
        }
        CHECKS.due("type('a') behind 40", sums.type('a'), WornSums.FULL);
        CHECKS.due("type(256) behind 40", sums.type(256), WornSums.BAD);
        CHECKS.due("type(MIN) behind 40", sums.type(Integer.MIN_VALUE), WornSums.BAD);
        CHECKS.due("count(5)", sums.count(5), 40);
        CHECKS.due("count(6)", sums.count(6), 0);
    }

    private static void clearing() {
        WornSums sums = new WornSums();
        Checks.typeAll(sums, "one=1");
        CHECKS.due("clear()", sums.clear(), 5);
        CHECKS.due("count(5)", sums.count(5), 0);
        CHECKS.due("clear() again", sums.clear(), 0);
        Checks.typeAll(sums, "two=2");
        CHECKS.due("tells()", sums.tells(), 0);
        CHECKS.holds("two=2 is told", Checks.words(sums, 0).equals("two"));
        CHECKS.due("clear() behind tells()", sums.clear(), 0);
    }

    private static void tellsWell(String text) {
        WornSums sums = new WornSums();
        Checks.typeAll(sums, text);
        CHECKS.due("tells() of " + text, sums.tells(), 0);
        CHECKS.due("count(5) behind " + text, sums.count(5), 0);
        CHECKS.due("count(6) behind " + text, sums.count(6), 1);
        int equals = text.indexOf('=');
        CHECKS.holds("words of " + text, Checks.words(sums, 0).equals(text.substring(0, equals)));
        CHECKS.holds("figures of " + text, Checks.figures(sums, 0).equals(text.substring(equals + 1)));
    }

    private static void tellingWell() {
        tellsWell("a=0");
        tellsWell("z=9");
        tellsWell("?=?");
        tellsWell("a b=12");
        tellsWell("a b c d=???");
        tellsWell("one=000");
        tellsWell(LETTERS_31 + "=123");
        tellsWell(LETTERS_31.substring(0, 29) + " z=123");
        WornSums sums = new WornSums();
        for (int entry = 0; entry < 6; entry++) {
            Checks.typeAll(sums, "one=" + entry);
            CHECKS.due("tells() of the next", sums.tells(), entry);
            CHECKS.due("count(0)", sums.count(0), entry + 1);
        }
        CHECKS.holds("each comes behind the others", Checks.state(sums)
                .equals("one=0|one=1|one=2|one=3|one=4|one=5| slack 0 total -9"));
    }

    private static void faults(String text, int fault) {
        WornSums sums = new WornSums();
        Checks.tell(sums, "seven=7");
        Checks.typeAll(sums, text);
        String before = Checks.all(sums);
        CHECKS.due("tells() of '" + text + "'", sums.tells(), -10 - fault);
        CHECKS.holds("nothing changes by '" + text + "'", Checks.all(sums).equals(before));
        CHECKS.due("THE TEXT stays", sums.clear(), text.length());
        Checks.typeAll(sums, "one=1");
        CHECKS.due("tells() behind clear()", sums.tells(), 1);
    }

    private static void tellingWithFault() {
        faults("", 0);
        faults("a", 1);
        faults("one", 3);
        faults("one=", 4);
        faults("=1", 0);
        faults("=", 0);
        faults(" one=1", 0);
        faults(" ", 0);
        faults("one =1", 3);
        faults("one ", 4);
        faults("one  ", 4);
        faults("one  two=1", 4);
        faults("one  =1", 4);
        faults("one two =1", 7);
        faults("one=1234", 7);
        faults("one=????", 7);
        faults("one=1=", 5);
        faults("one==1", 4);
        faults("one= 1", 4);
        faults("one=1 ", 5);
        faults("one=a", 4);
        faults("one=1a", 5);
        faults("one=12/", 6);
        faults("one=12:", 6);
        faults("One=1", 0);
        faults("o1e=1", 1);
        faults("on`=1", 2);
        faults("on{=1", 2);
        faults("on" + (char) 0, 2);
        faults("on" + (char) 255 + "=1", 2);
        faults("one #=1", 4);
        faults("one" + (char) 10 + "=1", 3);
        faults(LETTERS_31 + "a=1", 31);
        faults(LETTERS_31 + "a", 31);
        faults(LETTERS_31 + " =1", 31);
        faults(LETTERS_31 + "?", 31);
        faults(LETTERS_31, 31);
        faults(LETTERS_31 + "=", 32);
        faults(LETTERS_31 + "=1234", 35);
        faults(LETTERS_31.substring(1) + " =1", 30);
        faults(LETTERS_31.substring(1) + " a=1", 31);
        WornSums sums = new WornSums();
        Checks.typeAll(sums, "one =1");
        sums.clear();
        Checks.typeAll(sums, "one ");
        CHECKS.due("tells(): the = of an earlier text is gone", sums.tells(), -14);
        faults(LETTERS_31 + "aaaaaaaaa", 31);
    }

    private static void tellingWhenFull() {
        WornSums sums = new WornSums();
        for (int entry = 0; entry < 6; entry++) {
            Checks.tell(sums, "one=1");
        }
        Checks.typeAll(sums, "two=2");
        String before = Checks.all(sums);
        CHECKS.due("tells() of a seventh", sums.tells(), WornSums.FULL);
        CHECKS.holds("nothing changes", Checks.all(sums).equals(before));
        CHECKS.due("THE TEXT stays", sums.clear(), 5);
        Checks.typeAll(sums, "#");
        CHECKS.due("FULL goes ahead of FAULT", sums.tells(), WornSums.FULL);
        sums.clear();
        CHECKS.due("FULL goes ahead of an empty text", sums.tells(), WornSums.FULL);
        sums.drops(0);
        Checks.typeAll(sums, "two=2");
        CHECKS.due("tells() behind drops()", sums.tells(), 5);
    }
}

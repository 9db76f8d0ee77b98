/** Promises 19 to 21: keep, back, count. */
public final class ImagesTest {
    private static final Checks CHECKS = new Checks();
    private static final int MIN = Integer.MIN_VALUE;
    private static final int MAX = Integer.MAX_VALUE;

    public static void main(String[] args) {
        keepingAndGoingBack();
        imagesStayAsKept();
        badImages();
        counting();
        CHECKS.end("ImagesTest");
    }

    private static void keepingAndGoingBack() {
        WornSums sums = new WornSums();
        CHECKS.due("keep(0) of nothing", sums.keep(0), 0);
        Checks.tell(sums, "s?x=6");
        Checks.tell(sums, "one=?");
        sums.slacks(1);
        sums.totals(7);
        Checks.typeAll(sums, "abc");
        String before = Checks.state(sums);
        CHECKS.due("count(6)", sums.count(6), 4);
        CHECKS.due("keep(1)", sums.keep(1), 2);
        CHECKS.due("keep(1) leaves what may be undone", sums.count(6), 4);
        sums.drops(0);
        sums.wears(0, 0, 0);
        sums.slacks(2);
        sums.totals(9);
        CHECKS.due("least(-1)", sums.least(-1), WornSums.NONE);
        CHECKS.due("back(1)", sums.back(1), 2);
        CHECKS.holds("all is as kept", Checks.state(sums).equals(before));
        CHECKS.due("what had been found out is found anew", sums.least(-1), 2);
        CHECKS.due("least(1)", sums.least(1), 1);
        CHECKS.due("nothing can be undone", sums.count(6), 0);
        CHECKS.due("undo() behind back()", sums.undo(), WornSums.STATE);
        CHECKS.due("THE TEXT stays", sums.count(5), 3);
        CHECKS.due("slacks(0)", sums.slacks(0), 1);
        CHECKS.due("undo() of what came behind back()", sums.undo(), 0);
        CHECKS.holds("as kept again", Checks.state(sums).equals(before));
        CHECKS.due("undo() no further", sums.undo(), WornSums.STATE);
        CHECKS.due("back(0)", sums.back(0), 0);
        CHECKS.due("SLACK as kept", sums.count(2), 0);
        CHECKS.due("TOTAL as kept", sums.count(3), WornSums.NONE);
        CHECKS.due("back(1) once more", sums.back(1), 2);
        CHECKS.holds("as kept once more", Checks.state(sums).equals(before));
    }

    private static void imagesStayAsKept() {
        WornSums sums = new WornSums();
        Checks.tell(sums, "one=1");
        sums.keep(0);
        Checks.tell(sums, "two=2");
        sums.keep(1);
        sums.undo();
        sums.wears(0, 0, 0);
        CHECKS.due("back(1)", sums.back(1), 2);
        CHECKS.holds("image 1", Checks.state(sums).equals("one=1|two=2| slack 0 total -9"));
        sums.wears(1, 1, 0);
        CHECKS.due("back(0)", sums.back(0), 1);
        CHECKS.holds("image 0", Checks.state(sums).equals("one=1| slack 0 total -9"));
        sums.wears(0, 0, 2);
        CHECKS.due("keep(0) anew", sums.keep(0), 1);
        sums.drops(0);
        CHECKS.due("back(0)", sums.back(0), 1);
        CHECKS.holds("image 0 anew", Checks.state(sums).equals("on?=1| slack 0 total -9"));
        CHECKS.due("back(1)", sums.back(1), 2);
        CHECKS.holds("image 1 again", Checks.state(sums).equals("one=1|two=2| slack 0 total -9"));
    }

    private static void badImages() {
        WornSums sums = new WornSums();
        Checks.tell(sums, "one=1");
        sums.keep(0);
        sums.totals(3);
        String before = Checks.all(sums);
        int[] noImages = {-1, 2, MIN, MAX};
        for (int image : noImages) {
            CHECKS.due("keep(" + image + ")", sums.keep(image), WornSums.BAD);
            CHECKS.due("back(" + image + ")", sums.back(image), WornSums.BAD);
        }
        CHECKS.due("back(1), not kept", sums.back(1), WornSums.STATE);
        CHECKS.holds("nothing changes", Checks.all(sums).equals(before));
    }

    private static void counting() {
        WornSums sums = new WornSums();
        Checks.tell(sums, "s?x=?");
        Checks.tell(sums, "six=2");
        Checks.tell(sums, "a??=9?");
        sums.slacks(1);
        sums.totals(0);
        Checks.typeAll(sums, "????");
        int[] due = {3, 2, 1, 0, 5, 4, 5};
        for (int what = 0; what < due.length; what++) {
            CHECKS.due("count(" + what + ")", sums.count(what), due[what]);
        }
        int[] noWhats = {-1, 7, MIN, MAX};
        for (int what : noWhats) {
            CHECKS.due("count(" + what + ")", sums.count(what), WornSums.BAD);
        }
        sums.drops(1);
        CHECKS.due("count(1)", sums.count(1), 1);
        sums.undo();
        CHECKS.due("count(1) behind undo()", sums.count(1), 2);
    }
}

/**
 * Two objects with the same past, one of which is asked a call more: no other call may show which one it was.
 * Each view takes a pair of its own, since to tell, to undo and to go back shows a state, and changes it.
 */
final class Twins {
    interface Past {
        void live(WornSums sums);
    }

    interface Call {
        int ask(WornSums sums);
    }

    interface NumberCall {
        int ask(WornSums sums, int n);
    }

    private interface View {
        String of(WornSums sums);
    }

    private static final View[] VIEWS = {
        Twins::rows, Twins::found, Twins::told, Twins::roomOfText, Twins::undone, sums -> goneBack(sums, 0),
        sums -> goneBack(sums, 1)
    };

    private Twins() {
    }

    /** ENTRIES, SLACK, TOTAL, THE TEXT, both IMAGES, and more deeds than can be UNDONE. */
    static void busy(WornSums sums) {
        Checks.tell(sums, "six=6");
        sums.slacks(1);
        sums.keep(0);
        Checks.tell(sums, "t?n=1?");
        sums.totals(16);
        sums.keep(1);
        Checks.tell(sums, "?ort? ???=?1");
        sums.wears(2, 0, 1);
        sums.makes(1, 0, 1, 'e');
        sums.drops(0);
        sums.slacks(2);
        sums.totals(61);
        Checks.typeAll(sums, "s?x=?");
    }

    static void changesNothing(Checks checks, String call, Past past, Call asked, int due) {
        for (View view : VIEWS) {
            WornSums unasked = new WornSums();
            WornSums sums = new WornSums();
            past.live(unasked);
            past.live(sums);
            checks.due(call, asked.ask(sums), due);
            checks.same("what is shown behind " + call, view.of(sums), view.of(unasked));
        }
    }

    /** The first numbers below and above a range, and others that would be in it if they wrapped around: all are BAD. */
    static void badOutside(Checks checks, String call, int least, int greatest, Past past, NumberCall asked) {
        int[] numbers = {
            least - 1, greatest + 1, least - 2, greatest + 2, least - 256, least + 256, least - 65536, least + 65536,
            greatest + 65536, Integer.MIN_VALUE, Integer.MIN_VALUE + 1, Integer.MIN_VALUE + least, Integer.MAX_VALUE,
            Integer.MAX_VALUE - 1
        };
        for (int n : numbers) {
            if (n < least || n > greatest) {
                changesNothing(checks, call + " of " + n, past, sums -> asked.ask(sums, n), WornSums.BAD);
            }
        }
    }

    private static String rows(WornSums sums) {
        return Checks.all(sums) + " worn " + sums.count(4) + " cleared " + sums.clear();
    }

    private static String found(WornSums sums) {
        StringBuilder found = new StringBuilder();
        found.append("altered ").append(sums.count(1)).append(" least ").append(sums.least(-1));
        for (int entry = 0; entry < sums.count(0); entry++) {
            found.append(" | ").append(sums.least(entry)).append(' ').append(sums.sure(entry)).append(' ')
                    .append(sums.look(entry));
            for (int what = 2; what < 6; what++) {
                found.append(' ').append(sums.entry(entry, what));
            }
            for (int r = 0; r < 5; r++) {
                found.append(' ').append(sums.ranked(entry, r, 0)).append('/').append(sums.ranked(entry, r, 1));
            }
        }
        return found.toString();
    }

    private static String told(WornSums sums) {
        int first = sums.tells();
        sums.drops(0);
        return first + " " + sums.tells() + " " + Checks.all(sums);
    }

    private static String roomOfText(WornSums sums) {
        StringBuilder room = new StringBuilder();
        for (int i = 0; i < 41; i++) {
            room.append(sums.type('a')).append(' ');
        }
        return room.toString();
    }

    private static String undone(WornSums sums) {
        StringBuilder undone = new StringBuilder();
        for (int i = 0; i < 9; i++) {
            undone.append(sums.undo()).append(' ').append(Checks.state(sums)).append(" least ").append(sums.least(-1))
                    .append('\n');
        }
        return undone.toString();
    }

    private static String goneBack(WornSums sums, int image) {
        return sums.back(image) + " " + Checks.all(sums) + " least " + sums.least(-1) + " " + found(sums);
    }
}

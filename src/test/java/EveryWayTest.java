import java.util.ArrayList;
import java.util.List;

/** AGREEING, RANKED, LEAST, SURE and BEST TO MAKE OUT, as their sentences say: by a list of every way that there is. */
public final class EveryWayTest {
    private static final Checks CHECKS = new Checks();
    private static final int NONE = WornSums.NONE;
    private static final int MOST_WAYS = 20_000;
    private static final String ALIKE = "06 08 17 38 49 56 68 60 80 71 83 94 65 86";
    private static final String[] TEXTS = {
        "???=?", "?????=?", "????=?", "s??=8", "?????=3", "?????=8", "?i?e=?", "zero=?", "z??o=6", "one=1", "six=2",
        "?i?ty=?0", "??????=?0", "f??ty=??", "s???????n=1?", "?????een=1?", "?????? ???=??", "t?enty ??x=2?", "?????? ????=9?",
        "??? hundred=?00", "??? hundred ??? t??=?10", "six hundred and ???=60?", "???? ??????? and one=5??",
        "seven hundred and seventy seven=777", "??n??? ?????=87", "fixe=?", "sjx=?", "te?=??", "e??ht=9", "????? ??????? ??? ???=8??"
    };

    private final List<String> texts = new ArrayList<>();
    private final List<List<Integer>> agreeing = new ArrayList<>();
    private final int slack;
    private int total = NONE;
    private final List<int[]> ways = new ArrayList<>();

    private EveryWayTest(int slack) {
        this.slack = slack;
    }

    public static void main(String[] args) {
        for (int slack = 0; slack <= 2; slack++) {
            new EveryWayTest(slack).comparesAtTotals();
            for (int i = 0; i < TEXTS.length; i++) {
                for (int others = 0; others < 6; others++) {
                    EveryWayTest test = new EveryWayTest(slack);
                    for (int k = 0; k <= others; k++) {
                        test.takes(TEXTS[(i * (k + 1) + 7 * k * others + slack) % TEXTS.length]);
                    }
                    test.comparesAtTotals();
                }
            }
        }
        CHECKS.end("EveryWayTest");
    }

    /** Takes an ENTRY more, if not too many ways come of it. */
    private void takes(String text) {
        long product = 1;
        List<Integer> numbers = new ArrayList<>();
        for (int number = 0; number <= 999; number++) {
            if (doubt(text, number) != NONE) {
                numbers.add(number);
            }
        }
        for (List<Integer> others : agreeing) {
            product *= Math.max(1, others.size());
        }
        if (product * numbers.size() <= MOST_WAYS) {
            texts.add(text);
            agreeing.add(numbers);
        }
    }

    private int doubt(String text, int number) {
        int words = byWords(text.substring(0, text.indexOf('=')), Model.inWords(number));
        int figures = byFigures(text.substring(text.indexOf('=') + 1), Integer.toString(number));
        return words == NONE || figures == NONE ? NONE : words + figures;
    }

    private int byWords(String told, String due) {
        int worn = 0;
        int others = 0;
        for (int i = 0; i < told.length() && told.length() == due.length(); i++) {
            if ((told.charAt(i) == ' ') != (due.charAt(i) == ' ')) {
                return NONE;
            }
            worn += told.charAt(i) == '?' ? 1 : 0;
            others += told.charAt(i) != '?' && told.charAt(i) != due.charAt(i) ? 1 : 0;
        }
        return told.length() != due.length() || others > slack ? NONE : worn + 3 * others;
    }

    private static int byFigures(String told, String due) {
        int doubt = 0;
        for (int i = 0; i < told.length() && told.length() == due.length(); i++) {
            if (told.charAt(i) == '?') {
                doubt += 1;
            } else if (told.charAt(i) != due.charAt(i)) {
                if (!ALIKE.contains("" + told.charAt(i) + due.charAt(i))) {
                    return NONE;
                }
                doubt += 2;
            }
        }
        return told.length() == due.length() ? doubt : NONE;
    }

    private WornSums told() {
        WornSums sums = new WornSums();
        sums.slacks(slack);
        for (String text : texts) {
            Checks.tell(sums, text);
        }
        return sums;
    }

    private void comparesAtTotals() {
        CHECKS.sentence(texts + ", SLACK " + slack);
        comparesEntries();
        listWays(0, new int[texts.size()]);
        WornSums sums = told();
        compares(sums);
        // an object is good for 512 calls: some 225 in told(), 14 at each of at most 17 TOTALS
        int step = Math.max(1, ways.size() / 7);
        for (int w = 0; w < ways.size(); w += step) {
            total = sum(ways.get(w));
            sums.totals(total);
            compares(sums);
        }
        int[] others = {0, total + 1, 9999};
        for (int other : others) {
            total = Math.max(0, other);
            sums.totals(total);
            compares(sums);
        }
    }

    private void listWays(int entry, int[] way) {
        if (entry == way.length) {
            ways.add(way.clone());
            return;
        }
        for (int number : agreeing.get(entry)) {
            way[entry] = number;
            listWays(entry + 1, way);
        }
    }

    private static int sum(int[] way) {
        int sum = 0;
        for (int number : way) {
            sum += number;
        }
        return sum;
    }

    private int doubt(int[] way) {
        int doubt = 0;
        for (int entry = 0; entry < way.length; entry++) {
            doubt += doubt(texts.get(entry), way[entry]);
        }
        return doubt;
    }

    private static boolean isLower(int[] way, int[] other) {
        for (int entry = 0; entry < way.length; entry++) {
            if (way[entry] != other[entry]) {
                return way[entry] < other[entry];
            }
        }
        return false;
    }

    private void compares(WornSums sums) {
        int[] least = null;
        int leastDoubt = NONE;
        int[] sure = null;
        for (int[] way : ways) {
            if (total != NONE && sum(way) != total) {
                continue;
            }
            int doubt = doubt(way);
            if (least == null || doubt < leastDoubt || doubt == leastDoubt && isLower(way, least)) {
                least = way;
                leastDoubt = doubt;
            }
            sure = sure == null ? way.clone() : whatIsSame(sure, way);
        }
        CHECKS.due("least(-1), TOTAL " + total, sums.least(-1), leastDoubt);
        for (int entry = 0; entry < texts.size(); entry++) {
            CHECKS.due("least(" + entry + "), TOTAL " + total, sums.least(entry), least == null ? NONE : least[entry]);
            CHECKS.due("sure(" + entry + "), TOTAL " + total, sums.sure(entry), sure == null ? NONE : sure[entry]);
        }
    }

    private static int[] whatIsSame(int[] sure, int[] way) {
        for (int entry = 0; entry < way.length; entry++) {
            sure[entry] = sure[entry] == way[entry] ? way[entry] : NONE;
        }
        return sure;
    }

    private void comparesEntries() {
        WornSums sums = told();
        int altered = 0;
        for (int entry = 0; entry < texts.size(); entry++) {
            List<Integer> left = new ArrayList<>(agreeing.get(entry));
            altered += left.isEmpty() ? 1 : 0;
            CHECKS.due("entry(" + entry + ", 5)", sums.entry(entry, 5), left.size());
            CHECKS.due("look(" + entry + ")", sums.look(entry), bestToMakeOut(entry));
            for (int r = 0; r < 12; r++) {
                Integer first = takeFirst(texts.get(entry), left);
                CHECKS.due("ranked(" + entry + ", " + r + ", 0)", sums.ranked(entry, r, 0), first == null ? NONE : first);
                CHECKS.due("ranked(" + entry + ", " + r + ", 1)", sums.ranked(entry, r, 1),
                        first == null ? NONE : doubt(texts.get(entry), first));
            }
        }
        CHECKS.due("count(1)", sums.count(1), altered);
    }

    private Integer takeFirst(String text, List<Integer> left) {
        Integer first = null;
        for (Integer number : left) {
            boolean isAhead = first == null || doubt(text, number) < doubt(text, first);
            first = isAhead ? number : first;
        }
        left.remove(first);
        return first;
    }

    private int bestToMakeOut(int entry) {
        String words = texts.get(entry).substring(0, texts.get(entry).indexOf('='));
        int best = NONE;
        int fewest = 0;
        for (int place = 0; place < words.length() && agreeing.get(entry).size() > 1; place++) {
            int most = 0;
            for (char letter = 'a'; letter <= 'z'; letter++) {
                int same = 0;
                for (int number : agreeing.get(entry)) {
                    same += Model.inWords(number).charAt(place) == letter ? 1 : 0;
                }
                most = Math.max(most, same);
            }
            if (words.charAt(place) == '?' && (best == NONE || most < fewest)) {
                best = place;
                fewest = most;
            }
        }
        return best;
    }
}

import java.util.ArrayList;
import java.util.HashMap;
import java.util.List;
import java.util.Map;
import java.util.Set;
import java.util.TreeSet;
import java.util.regex.Pattern;

/**
 * The document once more, written with the Java library and by other ways than the program's: texts that
 * never change, a state that is copied whole, patterns, and all ways to a sum listed by their prefixes.
 */
final class Model {
    private static final int BAD = -1;
    private static final int STATE = -2;
    private static final int FULL = -3;
    private static final int NONE = -9;
    private static final Set<String> ALIKE =
            Set.of("06", "08", "17", "38", "49", "56", "68", "60", "80", "71", "83", "94", "65", "86");
    private static final String[] SMALL = ("zero,one,two,three,four,five,six,seven,eight,nine,ten,eleven,twelve,thirteen,"
            + "fourteen,fifteen,sixteen,seventeen,eighteen,nineteen").split(",");
    private static final String[] TENS = ",,twenty,thirty,forty,fifty,sixty,seventy,eighty,ninety".split(",");
    private static final Pattern TOLD = Pattern.compile("[a-z?]+( [a-z?]+)*=[0-9?]{1,3}");

    record Entry(String words, String figures) { }

    record State(List<Entry> entries, int slack, int total) { }

    /** A way to take a NUMBER of each of the first ENTRIES. */
    record Way(int doubt, List<Integer> numbers) { }

    private String text = "";
    private State now = new State(List.of(), 0, NONE);
    private final List<State> earlier = new ArrayList<>();
    private final State[] images = new State[2];

    static String inWords(int number) {
        if (number < 20) {
            return SMALL[number];
        }
        if (number < 100) {
            return TENS[number / 10] + (number % 10 == 0 ? "" : " " + SMALL[number % 10]);
        }
        return SMALL[number / 100] + " hundred" + (number % 100 == 0 ? "" : " and " + inWords(number % 100));
    }

    private boolean has(int entry) {
        return entry >= 0 && entry < now.entries.size();
    }

    private void become(List<Entry> entries, int slack, int total) {
        earlier.add(now);
        if (earlier.size() > 8) {
            earlier.remove(0);
        }
        now = new State(List.copyOf(entries), slack, total);
    }

    private static int worn(Entry entry) {
        return (int) (entry.words + entry.figures).chars().filter(sign -> sign == '?').count();
    }

    int type(int letter) {
        if (letter < 0 || letter > 255) {
            return BAD;
        }
        if (text.length() == 40) {
            return FULL;
        }
        text += (char) letter;
        return text.length();
    }

    int clear() {
        int had = text.length();
        text = "";
        return had;
    }

    /** Whether a text could still become one that tells an ENTRY, its last letter not looked behind. */
    private static boolean canGoOn(String begun) {
        int equals = begun.indexOf('=');
        String words = equals < 0 ? begun : begun.substring(0, equals);
        if (words.length() > 31) {
            return false;
        }
        if (equals < 0) {
            return begun.isEmpty() || begun.matches("[a-z?]+( [a-z?]+)* ?");
        }
        return words.matches("[a-z?]+( [a-z?]+)*") && begun.substring(equals + 1).matches("[0-9?]{0,3}");
    }

    private int fault() {
        if (TOLD.matcher(text).matches() && text.indexOf('=') <= 31) {
            return NONE;
        }
        for (int end = 1; end <= text.length(); end++) {
            if (!canGoOn(text.substring(0, end))) {
                boolean toldAtBlankAhead = text.charAt(end - 1) == '=' && end > 1 && text.charAt(end - 2) == ' ';
                return toldAtBlankAhead ? end - 2 : end - 1;
            }
        }
        return text.length();
    }

    int tells() {
        if (now.entries.size() == 6) {
            return FULL;
        }
        int fault = fault();
        if (fault != NONE) {
            return -10 - fault;
        }
        String[] parts = text.split("=");
        List<Entry> entries = new ArrayList<>(now.entries);
        entries.add(new Entry(parts[0], parts[1]));
        become(entries, now.slack, now.total);
        text = "";
        return entries.size() - 1;
    }

    int drops(int entry) {
        if (!has(entry)) {
            return BAD;
        }
        List<Entry> entries = new ArrayList<>(now.entries);
        entries.remove(entry);
        become(entries, now.slack, now.total);
        return entries.size();
    }

    private String row(int entry, int isFigure) {
        if (!has(entry) || isFigure < 0 || isFigure > 1) {
            return null;
        }
        return isFigure == 0 ? now.entries.get(entry).words : now.entries.get(entry).figures;
    }

    private void put(int entry, int isFigure, int place, char sign) {
        StringBuilder signs = new StringBuilder(row(entry, isFigure));
        signs.setCharAt(place, sign);
        Entry old = now.entries.get(entry);
        List<Entry> entries = new ArrayList<>(now.entries);
        entries.set(entry, isFigure == 0
                ? new Entry(signs.toString(), old.figures)
                : new Entry(old.words, signs.toString()));
        become(entries, now.slack, now.total);
    }

    int wears(int entry, int isFigure, int place) {
        int was = sign(entry, isFigure, place);
        if (was == BAD) {
            return BAD;
        }
        if (was == '?' || was == ' ') {
            return STATE;
        }
        put(entry, isFigure, place, '?');
        return was;
    }

    int makes(int entry, int isFigure, int place, int sign) {
        int was = sign(entry, isFigure, place);
        String allowed = isFigure == 0 ? "abcdefghijklmnopqrstuvwxyz" : "0123456789";
        if (was == BAD || sign < 0 || sign > 255 || allowed.indexOf(sign) < 0) {
            return BAD;
        }
        if (was != '?') {
            return STATE;
        }
        put(entry, isFigure, place, (char) sign);
        return worn(now.entries.get(entry));
    }

    int slacks(int n) {
        if (n < 0 || n > 2) {
            return BAD;
        }
        int was = now.slack;
        if (was == n) {
            return STATE;
        }
        become(now.entries, n, now.total);
        return was;
    }

    int totals(int n) {
        if (n != NONE && (n < 0 || n > 9999)) {
            return BAD;
        }
        int was = now.total;
        if (was == n) {
            return STATE;
        }
        become(now.entries, now.slack, n);
        return was;
    }

    int undo() {
        if (earlier.isEmpty()) {
            return STATE;
        }
        now = earlier.remove(earlier.size() - 1);
        return earlier.size();
    }

    private int byWords(Entry entry, int number) {
        String due = inWords(number);
        String told = entry.words;
        if (!due.replaceAll("[a-z]", "x").equals(told.replaceAll("[a-z?]", "x"))) {
            return NONE;
        }
        int worn = 0;
        int others = 0;
        for (int i = 0; i < due.length(); i++) {
            if (told.charAt(i) == '?') {
                worn++;
            } else if (told.charAt(i) != due.charAt(i)) {
                others++;
            }
        }
        return others > now.slack ? NONE : worn + 3 * others;
    }

    private static int byFigures(Entry entry, int number) {
        String due = Integer.toString(number);
        String told = entry.figures;
        if (due.length() != told.length()) {
            return NONE;
        }
        int doubt = 0;
        for (int i = 0; i < due.length(); i++) {
            String pair = "" + told.charAt(i) + due.charAt(i);
            if (told.charAt(i) == '?') {
                doubt += 1;
            } else if (ALIKE.contains(pair)) {
                doubt += 2;
            } else if (told.charAt(i) != due.charAt(i)) {
                return NONE;
            }
        }
        return doubt;
    }

    private List<Integer> agreeing(Entry entry) {
        List<Integer> numbers = new ArrayList<>();
        for (int number = 0; number <= 999; number++) {
            if (byFigures(entry, number) != NONE && byWords(entry, number) != NONE) {
                numbers.add(number);
            }
        }
        return numbers;
    }

    private int both(Entry entry, int number) {
        return byWords(entry, number) + byFigures(entry, number);
    }

    int entry(int entry, int what) {
        if (!has(entry)) {
            return BAD;
        }
        Entry told = now.entries.get(entry);
        int can = 0;
        switch (what) {
            case 0:
                return told.words.length();
            case 1:
                return told.figures.length();
            case 2:
                return worn(told);
            case 3:
                for (int number = 0; number <= 999; number++) {
                    can += byWords(told, number) == NONE ? 0 : 1;
                }
                return can;
            case 4:
                for (int number = 0; number <= 999; number++) {
                    can += byFigures(told, number) == NONE ? 0 : 1;
                }
                return can;
            case 5:
                return agreeing(told).size();
            default:
                return BAD;
        }
    }

    int sign(int entry, int isFigure, int place) {
        String row = row(entry, isFigure);
        return row == null || place < 0 || place >= row.length() ? BAD : row.charAt(place);
    }

    int doubt(int entry, int number, int what) {
        if (!has(entry) || number < 0 || number > 999 || what < 0 || what > 1) {
            return BAD;
        }
        Entry told = now.entries.get(entry);
        return what == 0 ? byWords(told, number) : byFigures(told, number);
    }

    int ranked(int entry, int r, int what) {
        if (!has(entry) || r < 0 || what < 0 || what > 1) {
            return BAD;
        }
        Entry told = now.entries.get(entry);
        List<Integer> numbers = agreeing(told);
        numbers.sort((a, b) -> both(told, a) != both(told, b) ? both(told, a) - both(told, b) : a - b);
        if (r >= numbers.size()) {
            return NONE;
        }
        return what == 0 ? numbers.get(r) : both(told, numbers.get(r));
    }

    int word(int number, int k) {
        if (number < 0 || number > 999 || k < -1) {
            return BAD;
        }
        String words = inWords(number);
        return k == -1 ? words.length() : k < words.length() ? words.charAt(k) : NONE;
    }

    private static boolean isBetter(Way way, Way other) {
        if (other == null || way.doubt != other.doubt) {
            return other == null || way.doubt < other.doubt;
        }
        for (int i = 0; i < way.numbers.size(); i++) {
            int difference = way.numbers.get(i) - other.numbers.get(i);
            if (difference != 0) {
                return difference < 0;
            }
        }
        return false;
    }

    /** Of all ENTRIES but those of which one NUMBER is given: the best way to each sum. */
    private Map<Integer, Way> waysBySum(int fixedEntry, int fixedNumber) {
        Map<Integer, Way> ways = new HashMap<>();
        ways.put(0, new Way(0, List.of()));
        for (int entry = 0; entry < now.entries.size(); entry++) {
            Entry told = now.entries.get(entry);
            Map<Integer, Way> longer = new HashMap<>();
            for (int number : entry == fixedEntry ? List.of(fixedNumber) : agreeing(told)) {
                int doubt = both(told, number);
                for (Map.Entry<Integer, Way> begun : ways.entrySet()) {
                    List<Integer> numbers = new ArrayList<>(begun.getValue().numbers);
                    numbers.add(number);
                    Way way = new Way(begun.getValue().doubt + doubt, numbers);
                    longer.merge(begun.getKey() + number, way, (old, next) -> isBetter(next, old) ? next : old);
                }
            }
            ways = longer;
        }
        return ways;
    }

    private Way leastWay() {
        Map<Integer, Way> ways = waysBySum(-1, -1);
        if (now.total != NONE) {
            return ways.get(now.total);
        }
        Way best = null;
        for (Way way : ways.values()) {
            best = isBetter(way, best) ? way : best;
        }
        return best;
    }

    int least(int entry) {
        if (entry != -1 && !has(entry)) {
            return BAD;
        }
        Way way = leastWay();
        if (way == null) {
            return NONE;
        }
        return entry == -1 ? way.doubt : way.numbers.get(entry);
    }

    int sure(int entry) {
        if (!has(entry)) {
            return BAD;
        }
        Set<Integer> can = new TreeSet<>();
        for (int number : agreeing(now.entries.get(entry))) {
            Map<Integer, Way> ways = waysBySum(entry, number);
            if (now.total == NONE ? !ways.isEmpty() : ways.containsKey(now.total)) {
                can.add(number);
                if (can.size() > 1) {
                    return NONE;
                }
            }
        }
        return can.isEmpty() ? NONE : can.iterator().next();
    }

    int look(int entry) {
        if (!has(entry)) {
            return BAD;
        }
        Entry told = now.entries.get(entry);
        List<Integer> numbers = agreeing(told);
        int best = NONE;
        int fewest = Integer.MAX_VALUE;
        for (int place = 0; place < told.words.length() && numbers.size() > 1; place++) {
            Map<Character, Integer> counts = new HashMap<>();
            for (int number : numbers) {
                counts.merge(inWords(number).charAt(place), 1, Integer::sum);
            }
            int most = counts.values().stream().max(Integer::compare).get();
            if (told.words.charAt(place) == '?' && most < fewest) {
                best = place;
                fewest = most;
            }
        }
        return best;
    }

    int keep(int image) {
        if (image < 0 || image > 1) {
            return BAD;
        }
        images[image] = now;
        return now.entries.size();
    }

    int back(int image) {
        if (image < 0 || image > 1) {
            return BAD;
        }
        if (images[image] == null) {
            return STATE;
        }
        now = images[image];
        earlier.clear();
        return now.entries.size();
    }

    int count(int what) {
        switch (what) {
            case 0:
                return now.entries.size();
            case 1:
                return (int) now.entries.stream().filter(entry -> agreeing(entry).isEmpty()).count();
            case 2:
                return now.slack;
            case 3:
                return now.total;
            case 4:
                return now.entries.stream().mapToInt(Model::worn).sum();
            case 5:
                return text.length();
            case 6:
                return earlier.size();
            default:
                return BAD;
        }
    }

    int entries() {
        return now.entries.size();
    }

    int wordsOf(int entry) {
        return has(entry) ? now.entries.get(entry).words.length() : 0;
    }

    String text() {
        return text;
    }
}

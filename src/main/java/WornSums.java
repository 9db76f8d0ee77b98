import java.util.Arrays;

/**
 * Sums told twice, in words and in figures, both worn: which NUMBERS each ENTRY can be, how doubtful
 * each is, and which NUMBERS of all ENTRIES come to a TOTAL.
 *
 * <p>All rows are made in the constructor and used again: no call makes an object.
 */
public final class WornSums {
    public static final int BAD = -1, STATE = -2, FULL = -3, NONE = -9;

    private static final int NUMBERS = 1000;
    private static final int ENTRY_LIMIT = 6;
    private static final int WORDS_LIMIT = 31;
    private static final int FIGURES_LIMIT = 3;
    private static final int TEXT_LIMIT = 40;
    private static final int LETTER_LIMIT = 255;
    private static final int SLACK_LIMIT = 2;
    private static final int TOTAL_LIMIT = 9999;
    private static final int UNDO_LIMIT = 8;
    private static final int IMAGES = 2;
    private static final int HIGHEST_SUM = ENTRY_LIMIT * (NUMBERS - 1);
    private static final int FAULT_BASE = -10;

    private static final char WORN = '?';
    private static final char BLANK = ' ';
    private static final char EQUALS = '=';

    private final Text text;
    private final Sheet sheet;
    private final History history;
    private final Sheet[] images;
    private final boolean[] imageKept;
    private final NumberWords numberWords;
    private final Findings findings;

    public WornSums() {
        text = new Text();
        sheet = new Sheet();
        history = new History();
        images = newSheets(IMAGES);
        imageKept = new boolean[IMAGES];
        numberWords = new NumberWords();
        findings = new Findings();
    }

    // ---- what is told

    public int type(int letter) {
        if (letter < 0 || letter > LETTER_LIMIT) {
            return BAD;
        }
        return text.add((char) letter) ? text.length : FULL;
    }

    public int clear() {
        int had = text.length;
        text.length = 0;
        return had;
    }

    public int tells() {
        if (sheet.size >= ENTRY_LIMIT) {
            return FULL;
        }
        int fault = text.fault();
        if (fault != NONE) {
            return FAULT_BASE - fault;
        }
        startChange();
        sheet.addEntry(text);
        text.length = 0;
        return sheet.size - 1;
    }

    // ---- what is done

    public int drops(int entry) {
        if (!sheet.hasEntry(entry)) {
            return BAD;
        }
        startChange();
        sheet.removeEntry(entry);
        return sheet.size;
    }

    public int wears(int entry, int isFigure, int place) {
        Row row = sheet.rowOf(entry, isFigure);
        if (row == null || !row.hasPlace(place)) {
            return BAD;
        }
        int was = row.at(place);
        if (was == WORN || was == BLANK) {
            return STATE;
        }
        startChange();
        row.put(place, WORN);
        return was;
    }

    public int makes(int entry, int isFigure, int place, int sign) {
        Row row = sheet.rowOf(entry, isFigure);
        if (row == null || !row.hasPlace(place) || !canBeMadeOut(isFigure, sign)) {
            return BAD;
        }
        if (row.at(place) != WORN) {
            return STATE;
        }
        startChange();
        row.put(place, (char) sign);
        return sheet.wornIn(entry);
    }

    public int slacks(int n) {
        if (n < 0 || n > SLACK_LIMIT) {
            return BAD;
        }
        int was = sheet.slack;
        if (n == was) {
            return STATE;
        }
        startChange();
        sheet.slack = n;
        return was;
    }

    public int totals(int n) {
        if (n != NONE && (n < 0 || n > TOTAL_LIMIT)) {
            return BAD;
        }
        int was = sheet.total;
        if (n == was) {
            return STATE;
        }
        startChange();
        sheet.total = n;
        return was;
    }

    public int undo() {
        if (history.size == 0) {
            return STATE;
        }
        history.takeBack(sheet);
        findings.forget();
        return history.size;
    }

    // ---- asked

    public int entry(int entry, int what) {
        if (!sheet.hasEntry(entry)) {
            return BAD;
        }
        switch (what) {
            case 0:
                return sheet.lengthOf(entry, 0);
            case 1:
                return sheet.lengthOf(entry, 1);
            case 2:
                return sheet.wornIn(entry);
            case 3:
                return agreeingOf(entry).byWords;
            case 4:
                return agreeingOf(entry).byFigures;
            case 5:
                return agreeingOf(entry).size;
            default:
                return BAD;
        }
    }

    public int sign(int entry, int isFigure, int place) {
        Row row = sheet.rowOf(entry, isFigure);
        return row == null || !row.hasPlace(place) ? BAD : row.at(place);
    }

    public int doubt(int entry, int number, int what) {
        Row row = sheet.rowOf(entry, what);
        if (row == null || !isNumber(number)) {
            return BAD;
        }
        return what == 0 ? numberWords.doubtOf(row, sheet.slack, number) : Figures.doubtOf(row, number);
    }

    public int ranked(int entry, int r, int what) {
        if (!sheet.hasEntry(entry) || r < 0 || what < 0 || what > 1) {
            return BAD;
        }
        Agreeing agreeing = agreeingOf(entry);
        int index = agreeing.indexOfRank(r);
        if (index == NONE) {
            return NONE;
        }
        return what == 0 ? agreeing.numberAt(index) : agreeing.doubtAt(index);
    }

    public int word(int number, int k) {
        if (!isNumber(number) || k < -1) {
            return BAD;
        }
        return k == -1 ? numberWords.lengthOf(number) : numberWords.at(number, k);
    }

    public int least(int entry) {
        if (entry != -1 && !sheet.hasEntry(entry)) {
            return BAD;
        }
        findings.refreshLeast(sheet, numberWords);
        return entry == -1 ? findings.leastDoubt : findings.leastNumber(entry);
    }

    public int sure(int entry) {
        if (!sheet.hasEntry(entry)) {
            return BAD;
        }
        findings.refresh(sheet, numberWords);
        return findings.sureNumber(entry, sheet.size, sheet.total);
    }

    public int look(int entry) {
        Row words = sheet.rowOf(entry, 0);
        if (words == null) {
            return BAD;
        }
        Agreeing agreeing = agreeingOf(entry);
        return agreeing.size <= 1 ? NONE : findings.bestPlace(words, agreeing, numberWords);
    }

    // ---- images

    public int keep(int image) {
        if (image < 0 || image >= IMAGES) {
            return BAD;
        }
        images[image].copyFrom(sheet);
        imageKept[image] = true;
        return sheet.size;
    }

    public int back(int image) {
        if (image < 0 || image >= IMAGES) {
            return BAD;
        }
        if (!imageKept[image]) {
            return STATE;
        }
        sheet.copyFrom(images[image]);
        history.size = 0;
        findings.forget();
        return sheet.size;
    }

    public int count(int what) {
        switch (what) {
            case 0:
                return sheet.size;
            case 1:
                findings.refresh(sheet, numberWords);
                return findings.alteredAmong(sheet.size);
            case 2:
                return sheet.slack;
            case 3:
                return sheet.total;
            case 4:
                return sheet.wornInAll();
            case 5:
                return text.length;
            case 6:
                return history.size;
            default:
                return BAD;
        }
    }

    // ---- helpers

    private void startChange() {
        history.remember(sheet);
        findings.forget();
    }

    /** Only for an ENTRY that there is. */
    private Agreeing agreeingOf(int entry) {
        findings.refresh(sheet, numberWords);
        return findings.agreeingAt(entry);
    }

    private static boolean isNumber(int number) {
        return number >= 0 && number < NUMBERS;
    }

    private static boolean isLetter(int sign) {
        return sign >= 'a' && sign <= 'z';
    }

    private static boolean isFigureSign(int sign) {
        return sign >= '0' && sign <= '9';
    }

    private static boolean canBeMadeOut(int isFigure, int sign) {
        return isFigure == 0 ? isLetter(sign) : isFigureSign(sign);
    }

    private static Sheet[] newSheets(int size) {
        Sheet[] sheets = new Sheet[Math.max(size, 0)];
        for (int i = 0; i < sheets.length; i++) {
            sheets[i] = new Sheet();
        }
        return sheets;
    }

    /** THE TEXT. */
    private static final class Text {
        private final char[] letters = new char[TEXT_LIMIT];
        private int length = 0;

        boolean add(char letter) {
            if (length >= letters.length) {
                return false;
            }
            letters[length] = letter;
            length++;
            return true;
        }

        char at(int place) {
            return place >= 0 && place < length && place < letters.length ? letters[place] : 0;
        }

        /** FAULT, or NONE if this tells an ENTRY. */
        int fault() {
            int equalsPlace = NONE;
            for (int place = 0; place < length; place++) {
                boolean stands = equalsPlace == NONE
                        ? standsInWords(place)
                        : standsInFigures(place - equalsPlace, at(place));
                if (!stands) {
                    return place;
                }
                if (at(place) == EQUALS) {
                    equalsPlace = place;
                }
            }
            boolean endsTooEarly = equalsPlace == NONE || equalsPlace == length - 1;
            return endsTooEarly ? length : NONE;
        }

        private boolean standsInWords(int place) {
            char letter = at(place);
            // A blank ahead of = is told at that blank, so = itself needs no look at it.
            if (letter == EQUALS) {
                return place > 0;
            }
            if (place >= WORDS_LIMIT) {
                return false;
            }
            if (letter == BLANK) {
                return place > 0 && at(place - 1) != BLANK && at(place + 1) != EQUALS;
            }
            return letter == WORN || isLetter(letter);
        }

        private static boolean standsInFigures(int nth, char letter) {
            return nth <= FIGURES_LIMIT && (letter == WORN || isFigureSign(letter));
        }

        int equalsPlace() {
            for (int place = 0; place < length; place++) {
                if (at(place) == EQUALS) {
                    return place;
                }
            }
            return length;
        }
    }

    /** The signs of WORDS or of FIGURES. */
    private static final class Row {
        private final char[] signs;
        private int length = 0;

        Row(int limit) {
            signs = new char[Math.max(limit, 0)];
        }

        boolean hasPlace(int place) {
            return place >= 0 && place < length && place < signs.length;
        }

        char at(int place) {
            return hasPlace(place) ? signs[place] : 0;
        }

        void put(int place, char sign) {
            if (hasPlace(place)) {
                signs[place] = sign;
            }
        }

        void takeFrom(Text text, int from, int to) {
            length = Math.max(0, Math.min(to - from, signs.length));
            for (int place = 0; place < length; place++) {
                put(place, text.at(from + place));
            }
        }

        void copyFrom(Row other) {
            length = Math.min(other.length, signs.length);
            for (int place = 0; place < length; place++) {
                put(place, other.at(place));
            }
        }

        int worn() {
            int worn = 0;
            for (int place = 0; place < length; place++) {
                if (at(place) == WORN) {
                    worn++;
                }
            }
            return worn;
        }
    }

    /** All that changes and is UNDONE or kept in IMAGES: ENTRIES, SLACK, TOTAL. */
    private static final class Sheet {
        private final Row[] words = newRows(WORDS_LIMIT);
        private final Row[] figures = newRows(FIGURES_LIMIT);
        private int size = 0;
        private int slack = 0;
        private int total = NONE;

        private static Row[] newRows(int limit) {
            Row[] rows = new Row[ENTRY_LIMIT];
            for (int i = 0; i < rows.length; i++) {
                rows[i] = new Row(limit);
            }
            return rows;
        }

        boolean hasEntry(int entry) {
            return entry >= 0 && entry < size && entry < ENTRY_LIMIT;
        }

        /** WORDS (isFigure 0) or FIGURES (1) of an ENTRY; null if there is no such row. */
        Row rowOf(int entry, int isFigure) {
            if (!hasEntry(entry) || isFigure < 0 || isFigure > 1) {
                return null;
            }
            return isFigure == 0 ? words[entry] : figures[entry];
        }

        int lengthOf(int entry, int isFigure) {
            Row row = rowOf(entry, isFigure);
            return row == null ? 0 : row.length;
        }

        int wornIn(int entry) {
            return hasEntry(entry) ? words[entry].worn() + figures[entry].worn() : 0;
        }

        int wornInAll() {
            int worn = 0;
            for (int entry = 0; entry < size; entry++) {
                worn += wornIn(entry);
            }
            return worn;
        }

        void addEntry(Text text) {
            if (size >= ENTRY_LIMIT) {
                return;
            }
            int equalsPlace = text.equalsPlace();
            words[size].takeFrom(text, 0, equalsPlace);
            figures[size].takeFrom(text, equalsPlace + 1, text.length);
            size++;
        }

        void removeEntry(int entry) {
            if (!hasEntry(entry)) {
                return;
            }
            for (int i = entry; i < size - 1 && i < ENTRY_LIMIT - 1; i++) {
                words[i].copyFrom(words[i + 1]);
                figures[i].copyFrom(figures[i + 1]);
            }
            size--;
        }

        void copyFrom(Sheet other) {
            size = Math.min(other.size, ENTRY_LIMIT);
            slack = other.slack;
            total = other.total;
            for (int i = 0; i < size; i++) {
                words[i].copyFrom(other.words[i]);
                figures[i].copyFrom(other.figures[i]);
            }
        }
    }

    /** The latest sheets, in a ring, so that the oldest one makes room. */
    private static final class History {
        private final Sheet[] sheets = newSheets(UNDO_LIMIT);
        private int next = 0;
        private int size = 0;

        void remember(Sheet sheet) {
            sheets[slotOf(next)].copyFrom(sheet);
            next = slotOf(next + 1);
            size = Math.min(size + 1, UNDO_LIMIT);
        }

        void takeBack(Sheet sheet) {
            if (size == 0) {
                return;
            }
            next = slotOf(next - 1);
            sheet.copyFrom(sheets[next]);
            size--;
        }

        private static int slotOf(int n) {
            return Math.floorMod(n, UNDO_LIMIT);
        }
    }

    /** All NUMBERS in words. */
    private static final class NumberWords {
        private static final String BELOW_TEN = "zero one two three four five six seven eight nine";
        private static final String TEENS =
                "ten eleven twelve thirteen fourteen fifteen sixteen seventeen eighteen nineteen";
        private static final String TENS = "twenty thirty forty fifty sixty seventy eighty ninety";

        private final char[] signs = new char[NUMBERS * WORDS_LIMIT];
        private final int[] lengths = new int[NUMBERS];

        NumberWords() {
            for (int number = 0; number < NUMBERS; number++) {
                write(number);
            }
        }

        /** Lower NUMBERS must have been written, since higher ones are put together from them. */
        private void write(int number) {
            if (number < 10) {
                addName(number, BELOW_TEN, number);
            } else if (number < 20) {
                addName(number, TEENS, number - 10);
            } else if (number < 100) {
                writeTens(number);
            } else {
                writeHundreds(number);
            }
        }

        private void writeTens(int number) {
            int ones = number % 10;
            if (ones == 0) {
                addName(number, TENS, number / 10 - 2);
                return;
            }
            addNumber(number, number - ones);
            addSign(number, BLANK);
            addNumber(number, ones);
        }

        private void writeHundreds(int number) {
            int left = number % 100;
            addNumber(number, number / 100);
            addAll(number, " hundred");
            if (left != 0) {
                addAll(number, " and ");
                addNumber(number, left);
            }
        }

        private void addName(int number, String names, int which) {
            int nth = 0;
            for (int i = 0; i < names.length(); i++) {
                char sign = names.charAt(i);
                if (sign == BLANK) {
                    nth++;
                } else if (nth == which) {
                    addSign(number, sign);
                }
            }
        }

        private void addAll(int number, String added) {
            for (int i = 0; i < added.length(); i++) {
                addSign(number, added.charAt(i));
            }
        }

        private void addNumber(int number, int part) {
            int length = lengthOf(part);
            for (int k = 0; k < length; k++) {
                addSign(number, (char) at(part, k));
            }
        }

        private void addSign(int number, char sign) {
            if (!isNumber(number) || lengths[number] >= WORDS_LIMIT) {
                return;
            }
            signs[number * WORDS_LIMIT + lengths[number]] = sign;
            lengths[number]++;
        }

        int lengthOf(int number) {
            return isNumber(number) ? lengths[number] : 0;
        }

        /** The k-th letter's code; NONE, if there are not so many. */
        int at(int number, int k) {
            if (!isNumber(number) || k < 0 || k >= lengths[number] || k >= WORDS_LIMIT) {
                return NONE;
            }
            return signs[number * WORDS_LIMIT + k];
        }

        /** DOUBT by WORDS; NONE: it can't be. */
        int doubtOf(Row words, int slack, int number) {
            if (words.length != lengthOf(number)) {
                return NONE;
            }
            int doubt = 0;
            int others = 0;
            for (int place = 0; place < words.length; place++) {
                int told = words.at(place);
                int due = at(number, place);
                if ((told == BLANK) != (due == BLANK)) {
                    return NONE;
                }
                if (told == WORN) {
                    doubt += 1;
                } else if (told != due) {
                    doubt += 3;
                    others++;
                }
            }
            return others <= slack ? doubt : NONE;
        }
    }

    /** NUMBERS in figures. */
    private static final class Figures {
        private static final String ALIKE_PAIRS = "06081738495668";

        /** DOUBT by FIGURES; NONE: it can't be. */
        static int doubtOf(Row figures, int number) {
            if (figures.length != lengthOf(number)) {
                return NONE;
            }
            int doubt = 0;
            int left = number;
            for (int place = figures.length - 1; place >= 0; place--) {
                int told = figures.at(place);
                int due = '0' + left % 10;
                left = left / 10;
                if (told == WORN) {
                    doubt += 1;
                } else if (areAlike(told, due)) {
                    doubt += 2;
                } else if (told != due) {
                    return NONE;
                }
            }
            return doubt;
        }

        private static int lengthOf(int number) {
            if (number < 10) {
                return 1;
            }
            return number < 100 ? 2 : 3;
        }

        private static boolean areAlike(int one, int other) {
            int low = Math.min(one, other);
            int high = Math.max(one, other);
            for (int i = 0; i + 1 < ALIKE_PAIRS.length(); i += 2) {
                if (ALIKE_PAIRS.charAt(i) == low && ALIKE_PAIRS.charAt(i + 1) == high) {
                    return true;
                }
            }
            return false;
        }
    }

    /** The AGREEING NUMBERS of an ENTRY, the lowest first, with both DOUBTS together. */
    private static final class Agreeing {
        private final int[] numbers = new int[NUMBERS];
        private final int[] doubts = new int[NUMBERS];
        private int size = 0;
        private int byWords = 0;
        private int byFigures = 0;

        void find(Row words, Row figures, int slack, NumberWords numberWords) {
            size = 0;
            byWords = 0;
            byFigures = 0;
            for (int number = 0; number < NUMBERS; number++) {
                int inWords = numberWords.doubtOf(words, slack, number);
                int inFigures = Figures.doubtOf(figures, number);
                if (inWords != NONE) {
                    byWords++;
                }
                if (inFigures != NONE) {
                    byFigures++;
                }
                if (inWords != NONE && inFigures != NONE) {
                    add(number, inWords + inFigures);
                }
            }
        }

        private void add(int number, int doubt) {
            if (size < numbers.length && size < doubts.length) {
                numbers[size] = number;
                doubts[size] = doubt;
                size++;
            }
        }

        int numberAt(int index) {
            return index >= 0 && index < size && index < numbers.length ? numbers[index] : NONE;
        }

        int doubtAt(int index) {
            return index >= 0 && index < size && index < doubts.length ? doubts[index] : NONE;
        }

        int highest() {
            return size == 0 ? 0 : numberAt(size - 1);
        }

        /** Where the r-th as RANKED stands; NONE: not so many. */
        int indexOfRank(int r) {
            for (int index = 0; index < size; index++) {
                if (rankOf(index) == r) {
                    return index;
                }
            }
            return NONE;
        }

        private int rankOf(int index) {
            int ahead = 0;
            for (int other = 0; other < size; other++) {
                boolean less = doubtAt(other) < doubtAt(index);
                boolean sameButLower = doubtAt(other) == doubtAt(index) && other < index;
                if (less || sameButLower) {
                    ahead++;
                }
            }
            return ahead;
        }
    }

    /** What is found out about a sheet, held until the sheet changes. */
    private static final class Findings {
        private static final int LETTERS = 26;
        private static final int UNREACHED = -1;

        private final Agreeing[] agreeing = new Agreeing[ENTRY_LIMIT];
        private boolean agreeingKnown = false;

        /** leastBySum[i][s]: the least DOUBT by which the ENTRIES from i on come to s. */
        private final int[][] leastBySum = new int[ENTRY_LIMIT + 1][HIGHEST_SUM + 1];
        private final int[] leastNumbers = new int[ENTRY_LIMIT];
        private int leastDoubt = NONE;
        private boolean leastKnown = false;

        private final boolean[] reached = new boolean[HIGHEST_SUM + 1];
        private final int[] letterCounts = new int[LETTERS];

        Findings() {
            for (int i = 0; i < agreeing.length; i++) {
                agreeing[i] = new Agreeing();
            }
        }

        void forget() {
            agreeingKnown = false;
            leastKnown = false;
        }

        void refresh(Sheet sheet, NumberWords numberWords) {
            if (agreeingKnown) {
                return;
            }
            for (int i = 0; i < sheet.size && i < ENTRY_LIMIT; i++) {
                agreeing[i].find(sheet.words[i], sheet.figures[i], sheet.slack, numberWords);
            }
            agreeingKnown = true;
        }

        Agreeing agreeingAt(int entry) {
            return agreeing[entry >= 0 && entry < ENTRY_LIMIT ? entry : 0];
        }

        int alteredAmong(int size) {
            int altered = 0;
            for (int i = 0; i < size && i < ENTRY_LIMIT; i++) {
                if (agreeing[i].size == 0) {
                    altered++;
                }
            }
            return altered;
        }

        // LEAST

        void refreshLeast(Sheet sheet, NumberWords numberWords) {
            if (leastKnown) {
                return;
            }
            refresh(sheet, numberWords);
            int size = Math.min(sheet.size, ENTRY_LIMIT);
            leastDoubt = NONE;
            if (alteredAmong(size) == 0) {
                if (sheet.total == NONE) {
                    findLeastOfAnySum(size);
                } else {
                    findLeastOfTotal(size, sheet.total);
                }
            }
            leastKnown = true;
        }

        int leastNumber(int entry) {
            boolean isThere = leastDoubt != NONE && entry >= 0 && entry < ENTRY_LIMIT;
            return isThere ? leastNumbers[entry] : NONE;
        }

        /** With any sum, what is RANKED first at each ENTRY is LEAST of all. */
        private void findLeastOfAnySum(int size) {
            leastDoubt = 0;
            for (int i = 0; i < size && i < ENTRY_LIMIT; i++) {
                int first = agreeing[i].indexOfRank(0);
                leastNumbers[i] = agreeing[i].numberAt(first);
                leastDoubt += agreeing[i].doubtAt(first);
            }
        }

        private void findLeastOfTotal(int size, int total) {
            if (total < 0 || total > HIGHEST_SUM) {
                return;
            }
            fillLeastBySum(size, total);
            if (leastBySum[0][total] == UNREACHED) {
                return;
            }
            leastDoubt = leastBySum[0][total];
            int left = total;
            for (int i = 0; i < size && i < ENTRY_LIMIT; i++) {
                leastNumbers[i] = lowestOfLeast(agreeing[i], leastBySum[i], leastBySum[i + 1], left);
                left -= leastNumbers[i];
            }
        }

        private void fillLeastBySum(int size, int total) {
            for (int i = 0; i <= size && i <= ENTRY_LIMIT; i++) {
                Arrays.fill(leastBySum[i], UNREACHED);
            }
            if (size >= 0 && size <= ENTRY_LIMIT) {
                leastBySum[size][0] = 0;
            }
            int highest = 0;
            for (int i = Math.min(size, ENTRY_LIMIT) - 1; i >= 0; i--) {
                highest = Math.min(highest + agreeing[i].highest(), Math.min(total, HIGHEST_SUM));
                for (int sum = 0; sum <= highest; sum++) {
                    leastBySum[i][sum] = leastAt(agreeing[i], leastBySum[i + 1], sum);
                }
            }
        }

        /** The least DOUBT by which a NUMBER here and the ENTRIES behind it come to a sum. */
        private static int leastAt(Agreeing here, int[] behind, int sum) {
            int best = UNREACHED;
            for (int k = 0; k < here.size; k++) {
                int doubt = doubtWith(here, k, behind, sum);
                if (doubt != UNREACHED && (best == UNREACHED || doubt < best)) {
                    best = doubt;
                }
            }
            return best;
        }

        private static int doubtWith(Agreeing here, int k, int[] behind, int sum) {
            int rest = sum - here.numberAt(k);
            if (rest < 0 || rest >= behind.length || behind[rest] == UNREACHED) {
                return UNREACHED;
            }
            return here.doubtAt(k) + behind[rest];
        }

        /** Only for a sum that is reached; so one of the NUMBERS has the row's DOUBT. */
        private static int lowestOfLeast(Agreeing here, int[] row, int[] behind, int sum) {
            if (sum < 0 || sum >= row.length) {
                return 0;
            }
            for (int k = 0; k < here.size; k++) {
                int doubt = doubtWith(here, k, behind, sum);
                if (doubt != UNREACHED && doubt == row[sum]) {
                    return here.numberAt(k);
                }
            }
            return 0;
        }

        // SURE

        int sureNumber(int entry, int size, int total) {
            if (alteredAmong(size) > 0) {
                return NONE;
            }
            Agreeing here = agreeingAt(entry);
            if (total == NONE) {
                return here.size == 1 ? here.numberAt(0) : NONE;
            }
            reachWithout(entry, size, total);
            int found = NONE;
            for (int k = 0; k < here.size; k++) {
                if (isReached(total - here.numberAt(k))) {
                    if (found != NONE) {
                        return NONE;
                    }
                    found = here.numberAt(k);
                }
            }
            return found;
        }

        private boolean isReached(int sum) {
            return sum >= 0 && sum <= HIGHEST_SUM && reached[sum];
        }

        /** Marks the sums, up to TOTAL, to which all ENTRIES but one come. */
        private void reachWithout(int entry, int size, int total) {
            for (int sum = 0; sum < reached.length; sum++) {
                reached[sum] = sum == 0;
            }
            int highest = 0;
            for (int i = 0; i < size && i < ENTRY_LIMIT; i++) {
                if (i != entry) {
                    highest = Math.min(highest + agreeing[i].highest(), Math.min(total, HIGHEST_SUM));
                    reachOn(agreeing[i], highest);
                }
            }
        }

        /** From the highest sum down, since a sum looks at lower ones as they were before. */
        private void reachOn(Agreeing next, int highest) {
            for (int sum = Math.min(highest, HIGHEST_SUM); sum >= 0; sum--) {
                reached[sum] = isReachedBy(next, sum);
            }
        }

        private boolean isReachedBy(Agreeing next, int sum) {
            for (int k = 0; k < next.size; k++) {
                if (isReached(sum - next.numberAt(k))) {
                    return true;
                }
            }
            return false;
        }

        // BEST TO MAKE OUT

        int bestPlace(Row words, Agreeing here, NumberWords numberWords) {
            int best = NONE;
            int fewest = 0;
            for (int place = 0; place < words.length; place++) {
                if (words.at(place) == WORN) {
                    int most = mostOfOneLetter(here, place, numberWords);
                    if (best == NONE || most < fewest) {
                        best = place;
                        fewest = most;
                    }
                }
            }
            return best;
        }

        private int mostOfOneLetter(Agreeing here, int place, NumberWords numberWords) {
            Arrays.fill(letterCounts, 0);
            int most = 0;
            for (int k = 0; k < here.size; k++) {
                int letter = numberWords.at(here.numberAt(k), place) - 'a';
                if (letter >= 0 && letter < LETTERS) {
                    letterCounts[letter]++;
                    most = Math.max(most, letterCounts[letter]);
                }
            }
            return most;
        }
    }
}

/** Long runs of calls, told by a fixed seed: the program answers as the model does, and nothing is ever thrown. */
public final class ModelTest {
    private static final int RUNS = 300;
    private static final int CALLS = 512;
    private static final int[] WILD = {
        Integer.MIN_VALUE, Integer.MAX_VALUE, -10, -9, -8, -2, -1, 0, 1, 2, 3, 5, 6, 7, 31, 40, 255, 256, 999, 1000, 9999,
        10000, 65536, 65536 + 'a', 1 << 30
    };
    private static final String SOME_LETTERS = "abceforsx";

    private final Checks checks = new Checks();
    private final WornSums sums = new WornSums();
    private final Model model = new Model();
    private final int run;
    private long seed;
    private int calls = 0;
    private String waiting = "";

    private ModelTest(int run) {
        this.run = run;
        this.seed = run * 7919L + 17;
    }

    public static void main(String[] args) {
        boolean failed = false;
        long all = 0;
        for (int run = 0; run < RUNS && !failed; run++) {
            ModelTest test = new ModelTest(run);
            test.play();
            all += test.calls;
            failed = test.checks.failed();
        }
        System.out.println("ModelTest: " + all + " calls");
        if (failed) {
            System.exit(1);
        }
    }

    private int below(int bound) {
        seed = seed * 6364136223846793005L + 1442695040888963407L;
        return (int) ((seed >>> 33) % bound);
    }

    private boolean oneIn(int bound) {
        return below(bound) == 0;
    }

    private void play() {
        try {
            // the last letter of a text and tells() are one step of two calls
            while (calls + 2 <= CALLS && !checks.failed()) {
                step();
            }
        } catch (RuntimeException thrown) {
            checks.holds("run " + run + ", call " + calls + ": threw " + thrown, false);
        }
    }

    private void due(String call, long got, long want) {
        calls++;
        checks.due("run " + run + ", call " + calls + ": " + call, got, want);
    }

    private void step() {
        if (!waiting.isEmpty()) {
            int letter = waiting.charAt(0);
            waiting = waiting.substring(1);
            type(letter);
            if (waiting.isEmpty()) {
                due("tells()", sums.tells(), model.tells());
            }
            return;
        }
        int kind = below(100);
        if (kind < 8) {
            startText();
        } else if (kind < 45) {
            change();
        } else if (kind < 90) {
            ask();
        } else {
            rare();
        }
    }

    private void type(int letter) {
        due("type(" + letter + ")", sums.type(letter), model.type(letter));
    }

    private void startText() {
        if (!model.text().isEmpty() && !oneIn(8)) {
            due("clear()", sums.clear(), model.clear());
        }
        waiting = oneIn(6) ? brokenText() : entryText();
    }

    /** Mostly short NUMBERS, so that 512 calls are enough for many ENTRIES. */
    private String entryText() {
        int number = oneIn(4) ? below(1000) : oneIn(3) ? below(100) : below(20);
        StringBuilder words = new StringBuilder(Model.inWords(number));
        StringBuilder figures = new StringBuilder(Integer.toString(oneIn(12) ? below(1000) : number));
        int wear = 1 + below(5);
        for (int i = 0; i < words.length(); i++) {
            if (words.charAt(i) != ' ' && oneIn(wear)) {
                words.setCharAt(i, '?');
            } else if (words.charAt(i) != ' ' && oneIn(14)) {
                words.setCharAt(i, SOME_LETTERS.charAt(below(SOME_LETTERS.length())));
            }
        }
        wear = 1 + below(4);
        for (int i = 0; i < figures.length(); i++) {
            if (oneIn(wear)) {
                figures.setCharAt(i, '?');
            } else if (oneIn(6)) {
                figures.setCharAt(i, (char) ('0' + below(10)));
            }
        }
        return words + "=" + figures;
    }

    private String brokenText() {
        StringBuilder text = new StringBuilder(oneIn(3) ? Model.inWords(777) + "=777" : entryText());
        String odd = "  ==??1aA~/:`{";
        int changes = 1 + below(3);
        for (int i = 0; i < changes; i++) {
            int place = below(text.length());
            char sign = odd.charAt(below(odd.length()));
            if (oneIn(2)) {
                text.insert(place, sign);
            } else {
                text.setCharAt(place, sign);
            }
        }
        if (oneIn(4)) {
            text.setLength(1 + below(text.length()));
        }
        return text.toString();
    }

    private int wild() {
        return WILD[below(WILD.length)];
    }

    private int someEntry() {
        return oneIn(25) ? wild() : model.entries() == 0 ? 0 : below(model.entries());
    }

    private int somePlace(int entry, int isFigure) {
        int length = isFigure == 0 ? model.wordsOf(entry) : 3;
        return oneIn(20) || length == 0 ? wild() : below(length);
    }

    private int someFlag() {
        return oneIn(25) ? wild() : below(2);
    }

    private int wornPlace(int entry, int isFigure) {
        int place = somePlace(entry, isFigure);
        for (int tries = 0; tries < 20 && model.sign(entry, isFigure, place) != '?'; tries++) {
            place = somePlace(entry, isFigure);
        }
        return place;
    }

    private int someSign(int isFigure) {
        if (oneIn(15)) {
            return oneIn(2) ? wild() : below(128);
        }
        return isFigure == 0 ? "abcdefghijklmnopqrstuvwxyz".charAt(below(26)) : '0' + below(10);
    }

    private void change() {
        int entry = someEntry();
        int flag = someFlag();
        int n;
        switch (below(12)) {
            case 0:
                due("drops(" + entry + ")", sums.drops(entry), model.drops(entry));
                break;
            case 1:
            case 2:
            case 3:
                n = somePlace(entry, flag);
                due("wears(" + entry + ", " + flag + ", " + n + ")", sums.wears(entry, flag, n), model.wears(entry, flag, n));
                break;
            case 4:
            case 5:
                n = wornPlace(entry, flag);
                int sign = someSign(flag);
                due("makes(" + entry + ", " + flag + ", " + n + ", " + sign + ")", sums.makes(entry, flag, n, sign),
                        model.makes(entry, flag, n, sign));
                break;
            case 6:
                n = oneIn(10) ? wild() : below(3);
                due("slacks(" + n + ")", sums.slacks(n), model.slacks(n));
                break;
            case 7:
            case 8:
                n = someTotal();
                due("totals(" + n + ")", sums.totals(n), model.totals(n));
                break;
            default:
                due("undo()", sums.undo(), model.undo());
                break;
        }
    }

    /** Mostly a sum to which the ENTRIES can come: ranked NUMBERS of each, together. */
    private int someTotal() {
        if (oneIn(5)) {
            return oneIn(2) ? -9 : wild();
        }
        int sum = 0;
        for (int entry = 0; entry < model.entries(); entry++) {
            int number = model.ranked(entry, below(4), 0);
            sum += number >= 0 ? number : Math.max(0, model.ranked(entry, 0, 0));
        }
        return oneIn(6) ? sum + below(3) - 1 : sum;
    }

    private void ask() {
        int entry = someEntry();
        int n;
        int what;
        switch (below(10)) {
            case 0:
                what = oneIn(20) ? wild() : below(6);
                due("entry(" + entry + ", " + what + ")", sums.entry(entry, what), model.entry(entry, what));
                break;
            case 1:
                what = someFlag();
                n = somePlace(entry, what);
                due("sign(" + entry + ", " + what + ", " + n + ")", sums.sign(entry, what, n), model.sign(entry, what, n));
                break;
            case 2:
                what = someFlag();
                n = someNumber(entry);
                due("doubt(" + entry + ", " + n + ", " + what + ")", sums.doubt(entry, n, what), model.doubt(entry, n, what));
                break;
            case 3:
            case 4:
                what = someFlag();
                n = oneIn(10) ? wild() : below(6);
                due("ranked(" + entry + ", " + n + ", " + what + ")", sums.ranked(entry, n, what),
                        model.ranked(entry, n, what));
                break;
            case 5:
                n = oneIn(8) ? wild() : below(1000);
                what = oneIn(8) ? wild() : below(33) - 1;
                due("word(" + n + ", " + what + ")", sums.word(n, what), model.word(n, what));
                break;
            case 6:
            case 7:
                n = oneIn(3) ? -1 : entry;
                due("least(" + n + ")", sums.least(n), model.least(n));
                break;
            case 8:
                due("sure(" + entry + ")", sums.sure(entry), model.sure(entry));
                break;
            default:
                due("look(" + entry + ")", sums.look(entry), model.look(entry));
                break;
        }
    }

    private int someNumber(int entry) {
        int agreeing = model.ranked(entry, below(3), 0);
        return oneIn(3) || agreeing < 0 ? (oneIn(8) ? wild() : below(1000)) : agreeing;
    }

    private void rare() {
        int image = oneIn(12) ? wild() : below(2);
        switch (below(6)) {
            case 0:
                due("keep(" + image + ")", sums.keep(image), model.keep(image));
                break;
            case 1:
                due("back(" + image + ")", sums.back(image), model.back(image));
                break;
            case 2:
                due("tells()", sums.tells(), model.tells());
                break;
            case 3:
                type(oneIn(3) ? wild() : below(256));
                break;
            default:
                int what = oneIn(15) ? wild() : below(7);
                due("count(" + what + ")", sums.count(what), model.count(what));
                break;
        }
    }
}

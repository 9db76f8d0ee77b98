import java.io.IOException;
import java.nio.file.Files;
import java.nio.file.Path;
import java.util.List;
import java.util.regex.Matcher;
import java.util.regex.Pattern;

/** Rules of LANGUAGE.md that can be seen in the text of the program. */
public final class LanguageTest {
    private static final Path SOURCE = Path.of("src/main/java/WornSums.java");
    private static final List<String> FORBIDDEN = List.of(
            "\\bthrow\\b", "\\btry\\b", "\\bcatch\\b", "\\bfinally\\b", "\\bsynchronized\\b", "\\bassert\\b", "\\bpackage\\b",
            "->", "::", "Exact\\b", "\\bObject\\b", "\\bSystem\\.(?!arraycopy)", "\\bRandom\\b", "\\bThread\\b", "\\bthrows\\b",
            "\\.hashCode\\b", "\\.toString\\b", "\\bNaN\\b", "\\bvar\\b", "\\bprotected\\b", "\\bstatic\\s*\\{",
            "\\.format\\b", "\\.split\\b", "\\.equals\\b", "\\bwhile\\b", "\\bclass\\s+\\w+\\s+extends\\b");
    private static final int LONGEST_METHOD = 60;

    public static void main(String[] args) throws IOException {
        Checks checks = new Checks();
        String source = Files.readString(SOURCE);
        String code = withoutCommentsAndTexts(source);
        for (String forbidden : FORBIDDEN) {
            Matcher found = Pattern.compile(forbidden).matcher(code);
            checks.holds("no " + forbidden, !found.find());
        }
        checks.holds("signs are 1 to 127", source.chars().allMatch(sign -> sign >= 1 && sign <= 127));
        checks.holds("no texts joined by +", !code.matches("(?s).*(\"\"\\s*\\+|\\+\\s*\"\").*"));
        checkImports(checks, code);
        checkClasses(checks, code);
        checkStaticFields(checks, code);
        checkMethodLengths(checks, code);
        checkFilledArrays(checks, code);
        checks.end("LanguageTest");
    }

    private static String withoutCommentsAndTexts(String source) {
        return source.replaceAll("(?s)/\\*.*?\\*/", "").replaceAll("//[^\n]*", "").replaceAll("\"[^\"\n]*\"", "\"\"");
    }

    private static void checkImports(Checks checks, String code) {
        Matcher imports = Pattern.compile("import ([^;]*);").matcher(code);
        while (imports.find()) {
            checks.holds("import " + imports.group(1),
                    List.of("java.util.Arrays", "java.util.ArrayList", "java.util.List", "java.util.Iterator")
                            .contains(imports.group(1)));
        }
    }

    private static void checkClasses(Checks checks, String code) {
        Matcher classes = Pattern.compile("([\\w ]*)\\bclass (\\w+)").matcher(code);
        int all = 0;
        while (classes.find()) {
            all++;
            boolean isFace = classes.group(2).equals("WornSums");
            checks.holds(classes.group(2) + " is as the rules ask",
                    classes.group(1).strip().equals(isFace ? "public final" : "private static final"));
        }
        checks.holds("at most twelve classes, found " + all, all <= 12);
    }

    private static void checkStaticFields(Checks checks, String code) {
        Matcher fields = Pattern.compile("(?m)^\\s*[\\w ]*\\bstatic\\b([^(){};]*)(=|;)").matcher(code);
        int all = 0;
        while (fields.find()) {
            all++;
            checks.holds("final: " + fields.group().strip(), fields.group().contains("final"));
            checks.holds("a constant of int, char or String: " + fields.group().strip(),
                    fields.group().matches("(?s).*\\b(int|char|String) .*"));
        }
        checks.holds("static fields are seen", all > 4);
    }

    /** A method stands at an indent of four or eight, and ends with a brace at the same indent. */
    private static void checkMethodLengths(Checks checks, String code) {
        String[] lines = code.split("\n");
        for (int begin = 0; begin < lines.length; begin++) {
            Matcher head = Pattern.compile("^( {4}| {8})[A-Za-z][\\w\\[\\] ]*\\(([^)]*)\\) \\{$").matcher(lines[begin]);
            if (!head.matches()) {
                continue;
            }
            int end = begin;
            while (end < lines.length && !lines[end].equals(head.group(1) + "}")) {
                end++;
            }
            checks.holds("short: " + lines[begin].strip(), end - begin <= LONGEST_METHOD);
            checks.holds("seven parameters at most: " + lines[begin].strip(), head.group(2).split(",").length <= 7);
        }
    }

    /** Arrays.fill and its like are for arrays of numbers alone. */
    private static void checkFilledArrays(Checks checks, String code) {
        Matcher names = Pattern.compile("(?:boolean|[A-Z]\\w*)\\[\\] (\\w+)").matcher(code);
        while (names.find()) {
            Matcher used = Pattern.compile("\\bArrays\\.\\w+\\(" + names.group(1) + "\\b").matcher(code);
            checks.holds("an array of numbers: " + names.group(1), !used.find());
        }
    }
}

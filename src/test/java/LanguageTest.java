import java.nio.file.Files;
import java.nio.file.Path;
import java.util.List;
import java.util.regex.Matcher;
import java.util.regex.Pattern;

/** What of LANGUAGE.md can be read off the text of the class: words that it forbids, and how long methods are. */
public final class LanguageTest {
    private static final int LONGEST_METHOD = 60;
    private static final String[] FORBIDDEN = {
        "\\bthrow\\b", "\\bthrows\\b", "\\btry\\b", "\\bcatch\\b", "\\bfinally\\b", "\\bsynchronized\\b", "\\bassert\\b",
        "\\bpackage\\b", "\\bprotected\\b", "->", "::", "\\bequals\\b", "\\bhashCode\\b", "\\btoString\\b", "Exact\\b",
        "\\bSystem\\.(?!arraycopy\\b)", "\\bRandom\\b", "\\bThread\\b", "\\bnew [a-z]+\\[[^\\]]*\\]\\[[^\\]]*\\]\\["};

    private static int wrong = 0;

    public static void main(String[] args) throws Exception {
        String text = Files.readString(Path.of(args.length > 0 ? args[0] : "src/main/java/TableFirms.java"));
        String code = text.replaceAll("(?s)/\\*.*?\\*/", "").replaceAll("//.*", "");
        for (String word : FORBIDDEN) {
            Matcher found = Pattern.compile(word).matcher(code);
            check(!found.find(), "the code has " + word);
        }
        Matcher imports = Pattern.compile("import ([^;]*);").matcher(code);
        while (imports.find()) {
            check(imports.group(1).equals("java.util.Arrays"), "the code imports " + imports.group(1));
        }
        check(code.chars().allMatch(c -> c == '\n' || c >= ' ' && c < 127), "the code has signs beyond 126");
        lengths(text.lines().toList());
        System.out.println(wrong == 0 ? "the code keeps to the language" : wrong + " faults of language");
        if (wrong != 0) {
            System.exit(1);
        }
    }

    /** A method begins with a line that opens a body at a class's depth, and ends with the brace below it. */
    private static void lengths(List<String> lines) {
        for (int from = 0; from < lines.size(); from++) {
            Matcher head = Pattern.compile("( {4}| {8})[A-Za-z][^;=]*\\(.*\\{").matcher(lines.get(from));
            if (head.matches() && !lines.get(from).contains(" if (") && !lines.get(from).contains(" for (")) {
                int to = from;
                while (!lines.get(to).equals(head.group(1) + "}")) {
                    to++;
                }
                check(to - from < LONGEST_METHOD, "a method of " + (to - from + 1) + " lines: " + lines.get(from).trim());
            }
        }
    }

    private static void check(boolean holds, String what) {
        if (!holds) {
            wrong++;
            System.out.println(what);
        }
    }
}

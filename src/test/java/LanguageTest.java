import java.io.IOException;
import java.nio.file.Files;
import java.nio.file.Path;
import java.util.List;
import java.util.regex.Matcher;
import java.util.regex.Pattern;

/** Those rules of LANGUAGE.md that can be seen in the lines of the program. */
public final class LanguageTest {
    private static final Path PROGRAM = Path.of("src/main/java/ReplayHouse.java");
    private static final String[] REFUSED = {
        "\\bcatch\\b", "\\btry\\b", "\\bfinally\\b", "->", "::", "\\bassert\\b", "\\bsynchronized\\b", "\\bpackage\\b",
        "Exact\\(", "\\bMap\\b", "\\bSet\\b", "\\bstream\\b", "\\bSystem\\.(?!arraycopy)", "\\bRandom\\b", "\\bThread\\b",
        "\\.printStackTrace", "\\bextends\\b", "\\bfloat\\b", "\\bdouble\\b", "\\bprotected\\b", "\" \\+", "\\+ \"",
        "throw (?!new (IllegalArgument|IndexOutOfBounds|NoSuchElement)Exception\\(\"[ -~]*\"\\);)"
    };

    public static void main(String[] args) throws IOException {
        List<String> lines = Files.readAllLines(PROGRAM);
        int classes = 0;
        for (int i = 0; i < lines.size(); i++) {
            String line = lines.get(i).replaceAll("//.*|^ */?\\*.*", "");
            for (String refused : REFUSED) {
                Check.same("line " + (i + 1) + " has " + refused, Pattern.compile(refused).matcher(line).find(), false);
            }
            if (line.contains(" static ") && line.endsWith(";")) {
                Check.same("line " + (i + 1) + " is a constant", line.contains(" static final int "), true);
            }
            if (line.startsWith("import ")) {
                Check.same(line, line.matches("import java\\.util\\.(Arrays|NoSuchElementException);"), true);
            }
            classes += line.contains(" class ") ? 1 : 0;
        }
        Check.same("at most twelve classes", classes <= 12, true);
        methods(lines);
        Check.close("LanguageTest");
    }

    private static void methods(List<String> lines) {
        Pattern head = Pattern.compile("^( {4}| {8})(?!if|for|while|switch|else|\\})\\w.*\\((.*)\\).*\\{$");
        for (int i = 0; i < lines.size(); i++) {
            Matcher found = head.matcher(lines.get(i));
            if (!found.matches() || lines.get(i).contains(" class ")) {
                continue;
            }
            int to = i;
            while (!lines.get(to).equals(found.group(1) + "}")) {
                to++;
            }
            Check.same("line " + (i + 1) + " begins a method of 60 lines at most", to - i < 60, true);
            Check.same("line " + (i + 1) + " has seven parameters at most", found.group(2).split(",").length <= 7, true);
        }
    }
}

import java.io.IOException;
import java.nio.file.Files;
import java.nio.file.Path;
import java.util.ArrayList;
import java.util.List;
import java.util.regex.Matcher;
import java.util.regex.Pattern;

/** Rules of LANGUAGE.md that a look at the source can tell. Its path is the argument. */
public final class SourceTest {
    private static final String[] NEVER = {
        "\\bthrows?\\b", "\\btry\\b", "\\bcatch\\b", "\\bfinally\\b", "\\bsynchronized\\b", "\\bassert\\b", "->", "::",
        "\\bObject\\b", "\\bequals\\b", "\\bhashCode\\b", "\\btoString\\b", "\\bSystem\\.(?!arraycopy)", "\\bThread\\b",
        "\\bRandom\\b", "\\bwhile\\b", "\\bfor \\(;", "Exact\\b", "\\bvar\\b", "\\bprotected\\b", "\\bpackage\\b",
        "\\bnative\\b", "\\bvolatile\\b", "\\btransient\\b", "\\blambda\\b", "\"", "\\bstatic \\{", "\\bNaN\\b"};
    private static final String[] LIBRARY = {
        "Arrays.fill", "Math.max", "Math.min", "Integer.bitCount", "Long.bitCount"};

    public static void main(String[] args) throws IOException {
        Path path = Path.of(args.length > 0 ? args[0] : "src/main/java/SquareTower.java");
        String text = Files.readString(path);
        String code = text.replaceAll("(?s)/\\*.*?\\*/", "").replaceAll("//[^\n]*", "");
        for (String pattern : NEVER) {
            Check.holds("there is no " + pattern, !Pattern.compile(pattern).matcher(code).find());
        }
        Matcher calls = Pattern.compile("\\b(Arrays|Math|Integer|Long|String|System)\\.\\w+").matcher(code);
        while (calls.find()) {
            String call = calls.group();
            boolean listed = calls.start() > 0 && code.startsWith("java.util.", Math.max(0, calls.start() - 10));
            for (String fine : LIBRARY) {
                listed |= fine.equals(call);
            }
            Check.holds(call + " is in the library", listed);
        }
        Check.holds("signs 1 to 127", text.chars().allMatch(c -> c < 128));
        lines(text);
        methods(code);
        Check.finish("SourceTest");
    }

    private static void lines(String text) {
        for (String line : text.split("\n")) {
            Check.holds("120 signs at most: " + line, line.length() <= 120);
        }
    }

    private static void methods(String code) {
        List<String> found = new ArrayList<>();
        String[] lines = code.split("\n");
        int begun = -1;
        String indent = "";
        int classes = 0;
        for (int k = 0; k < lines.length; k++) {
            classes += lines[k].matches(".*\\bclass \\w+.*") ? 1 : 0;
            Matcher head = Pattern.compile("^( {4}| {8})(?! )[\\w\\[\\] ]*\\w+\\([\\w\\[\\], ]*\\) \\{$").matcher(lines[k]);
            if (head.find() && begun < 0) {
                begun = k;
                indent = head.group(1);
                found.add(lines[k].trim());
            } else if (begun >= 0 && lines[k].equals(indent + "}")) {
                Check.holds("sixty lines at most: " + found.get(found.size() - 1), k - begun < 60);
                begun = -1;
            }
        }
        Check.holds("methods were found", found.size() > 60);
        Check.holds("twelve classes at most", classes <= 12);
    }
}

import java.io.IOException;
import java.lang.reflect.Method;
import java.nio.file.Files;
import java.nio.file.Path;
import java.util.BitSet;
import java.util.LinkedHashMap;
import java.util.Map;
import java.util.TreeSet;
import java.util.regex.Matcher;
import java.util.regex.Pattern;

/** The sentences that the tests are held to stand in the document, and none of the document's is left out. */
public final class DocumentTest {
    private static final Path DOCUMENT = Path.of("../shared/DOC.md");
    private static final int PROMISES = 19;
    /** The sentences of "What it is" that name a boundary; the others there only tell what is to come. */
    private static final String USED_FOR = "An object is used for at most 512 calls after it has been made; what later "
            + "calls answer is free.";
    /** Below "Terms" these tell where the interface has headings. */
    private static final Pattern HEADINGS = Pattern.compile("Ahead of the calls [^.]* the interface says: ---- \\w+\\.");
    private static final Pattern SIGNATURE = Pattern.compile("`[^`]*`:");

    private final Map<String, String> sections = new LinkedHashMap<>();
    private final Map<String, BitSet> covered = new LinkedHashMap<>();

    public static void main(String[] args) throws IOException {
        new DocumentTest().compare();
        Check.finish("DocumentTest");
    }

    private void compare() throws IOException {
        readSections();
        TreeSet<Integer> promises = new TreeSet<>();
        for (Class<?> tests : Sentences.CLASSES) {
            for (Method test : Sentences.of(tests)) {
                Sentence sentence = test.getAnnotation(Sentence.class);
                promises.add(sentence.promise());
                nameTellsThePromise(test, sentence);
                cover(test, sentence);
            }
        }
        Check.due("promises with tests", promises.size(), PROMISES);
        for (String heading : sections.keySet()) {
            nothingLeftOut(heading);
        }
    }

    private void readSections() throws IOException {
        for (String part : Files.readString(DOCUMENT).split("\n## ")) {
            int end = part.indexOf('\n');
            String heading = part.substring(0, Math.max(0, end)).trim();
            String text = part.substring(Math.max(0, end)).replace("```text", " ").replace("```", " ")
                    .replace("========", " ").replaceAll("\\s+", " ");
            if (heading.equals(Sentences.WHAT_IT_IS)) {
                Check.holds("the document says: " + USED_FOR, text.contains(USED_FOR));
                keep(heading, USED_FOR);
            } else if (heading.equals(Sentences.TERMS)) {
                keep(heading, HEADINGS.matcher(text).replaceAll(""));
            } else if (heading.startsWith("Promise ")) {
                keep(heading.substring(0, heading.indexOf(':')), SIGNATURE.matcher(text).replaceFirst(""));
            }
        }
        Check.due("sections", sections.size(), PROMISES + 2);
    }

    private void keep(String heading, String text) {
        sections.put(heading, text);
        covered.put(heading, new BitSet());
    }

    private static void nameTellsThePromise(Method test, Sentence sentence) {
        String begin = (sentence.promise() < 10 ? "p0" : "p") + sentence.promise() + "_";
        Check.holds(test.getName() + " begins with " + begin, test.getName().startsWith(begin));
    }

    private void cover(Method test, Sentence sentence) {
        String heading = sentence.under().isEmpty() ? "Promise " + sentence.promise() : sentence.under();
        String text = sections.getOrDefault(heading, "");
        int at = text.indexOf(sentence.says());
        Check.holds(test.getName() + ": under \"" + heading + "\" there stands \"" + sentence.says() + "\"", at >= 0);
        for (; at >= 0; at = text.indexOf(sentence.says(), at + 1)) {
            covered.get(heading).set(at, at + sentence.says().length());
        }
    }

    private void nothingLeftOut(String heading) {
        Matcher word = Pattern.compile("\\w+").matcher(sections.get(heading));
        StringBuilder left = new StringBuilder();
        while (word.find()) {
            // The number ahead of a group of terms is no part of a sentence.
            boolean number = heading.equals(Sentences.TERMS) && word.group().matches("[1-4]");
            if (!number && !covered.get(heading).get(word.start())) {
                left.append(word.group()).append(' ');
            }
        }
        Check.holds("a test for each sentence under \"" + heading + "\", none for: " + left, left.length() == 0);
    }
}

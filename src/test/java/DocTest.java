import java.io.File;
import java.nio.file.Path;
import java.util.ArrayList;
import java.util.List;
import java.util.regex.Matcher;
import java.util.regex.Pattern;

/** Each word of the document that tells what the program does stands in a sentence that a test names. */
public final class DocTest {
    private static final Pattern NAMED = Pattern.compile("Doc\\.says\\(\"((?:[^\"\\\\]|\\\\.)*)\"\\)");

    public static void main(String[] args) {
        List<String> named = new ArrayList<>();
        for (File file : new File("src/test/java").listFiles()) {
            Matcher m = NAMED.matcher(Doc.read(file.toPath()));
            while (m.find()) {
                named.add(Doc.plain(m.group(1).replaceAll("\\\\(.)", "$1")));
            }
        }
        int promises = 0;
        for (String paragraph : paragraphs(Doc.read(Path.of("../shared/DOC.md")))) {
            Check.is("a test of '" + paragraph + "'", named.stream().anyMatch(paragraph::contains), true);
            String left = unnamed(paragraph, named);
            Check.is("a test of '" + left + "' of '" + paragraph + "'", left.matches("[^A-Za-z0-9]*"), true);
            promises += paragraph.startsWith("`") && paragraph.contains(")`: ") ? 1 : 0;
        }
        Check.is("promises", promises, 34);
        Check.done();
    }

    /** What is left of a paragraph without the sentences named, its part's number and the method's head. */
    private static String unnamed(String paragraph, List<String> named) {
        char[] left = paragraph.replaceAll("^==== [IVX]+\\.", "").replaceAll("^`[^`]*`:", "").toCharArray();
        String whole = new String(left);
        for (String sentence : named) {
            int at = whole.indexOf(sentence);
            for (int i = 0; at >= 0 && i < sentence.length(); i++) {
                left[at + i] = ' ';
            }
        }
        return Doc.plain(new String(left));
    }

    private static List<String> paragraphs(String document) {
        List<String> all = new ArrayList<>();
        boolean within = false;
        for (String line : document.split("\n")) {
            String text = Doc.plain(line);
            if (text.startsWith("#")) {
                within = !text.equals("## Not promised") && (within || text.equals("## Terms"));
            } else if (within && !text.isEmpty() && !text.startsWith("```") && !text.startsWith("The constants")) {
                all.add(text);
            }
        }
        return all;
    }
}

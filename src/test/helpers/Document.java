import java.nio.file.Files;
import java.nio.file.Path;
import java.util.ArrayList;
import java.util.List;
import java.util.regex.Matcher;
import java.util.regex.Pattern;

/**
 * A section of ../shared/DOC.md. A test quotes its words ahead of the calls that hold them; close() fails if the
 * test has left words of the section out, or if the document does not say what was quoted.
 */
public final class Document {
    private static final Path DOCUMENT = Path.of("../shared/DOC.md");
    private static String heading = "";
    private static String body = "";
    private static boolean[] taken = {};
    private static String quoted = "";

    private Document() {
    }

    public static List<String> headings() throws Exception {
        List<String> all = new ArrayList<>();
        Matcher m = Pattern.compile("(?m)^## (Terms|Promise \\d+)").matcher(Files.readString(DOCUMENT));
        while (m.find()) {
            all.add(m.group(1));
        }
        return all;
    }

    public static void open(String section) throws Exception {
        String text = Files.readString(DOCUMENT) + "\n## ";
        Matcher m = Pattern.compile("(?s)\n## " + section + "(:[^\n]*)?\n(.*?)\n## ").matcher(text);
        Check.holds("the document has a section " + section, m.find());
        heading = section;
        body = m.group(2)
            .replaceAll("(?m)^`[^`]*`:", "")
            .replaceAll("(?m)^```.*$", "")
            .replaceAll("(?m)^\\d\\. ", "")
            .replaceAll("\\s+", " ");
        taken = new boolean[body.length()];
    }

    public static void says(String words) {
        quoted = words;
        int at = body.indexOf(words);
        Check.holds(heading + " says: " + words, at >= 0);
        for (int i = Math.max(0, at); i < at + words.length(); i++) {
            taken[i] = true;
        }
    }

    public static void close() {
        StringBuilder left = new StringBuilder();
        for (int i = 0; i < body.length(); i++) {
            left.append(taken[i] ? '_' : body.charAt(i));
        }
        boolean whole = left.toString().matches("[_ .,:;]*");
        Check.holds(heading + " is taken up whole: " + left.toString().replaceAll("_+", " .. "), whole);
        quoted = "";
    }

    /** Where a failing call stands in the document. */
    public static String place() {
        return heading + ", \"" + quoted + "\": ";
    }

    public static void due(String call, double got, double want) {
        Check.dueExactly(place() + call, got, want);
    }

    public static void dueLong(String call, long got, long want) {
        Check.due(place() + call, got, want);
    }
}

import java.nio.file.DirectoryStream;
import java.nio.file.Files;
import java.nio.file.Path;

/** Each section of the document that promises something is opened by one test, which Document.close() holds to it. */
public final class WholeDocumentTest {
    private WholeDocumentTest() {
    }

    private static String edgeTests() throws Exception {
        StringBuilder all = new StringBuilder();
        try (DirectoryStream<Path> tests = Files.newDirectoryStream(Path.of("src/test/java"), "*EdgesTest.java")) {
            for (Path test : tests) {
                all.append(Files.readString(test));
            }
        }
        return all.toString();
    }

    private static int howOften(String text, String words) {
        int many = 0;
        for (int at = text.indexOf(words); at >= 0; at = text.indexOf(words, at + 1)) {
            many++;
        }
        return many;
    }

    public static void main(String[] args) throws Exception {
        String tests = edgeTests();
        Check.due("sections of the document", Document.headings().size(), 36);
        for (String heading : Document.headings()) {
            Check.due("tests that open " + heading, howOften(tests, "Document.open(\"" + heading + "\")"), 1);
        }
        Check.due("each one that is opened is closed", howOften(tests, "Document.close()"), 36);
        Check.finish();
    }
}

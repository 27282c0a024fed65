import java.io.IOException;
import java.nio.file.DirectoryStream;
import java.nio.file.Files;
import java.nio.file.Path;
import java.util.regex.Matcher;
import java.util.regex.Pattern;

/** Each promise of the document has a test that is named after it, and so have its terms. */
public final class EachPromiseTest {
    private static final Pattern NAMED =
            Pattern.compile("\\n    static void (promise([0-9]+)|term)_[a-zA-Z0-9_]+\\(\\)");

    public static void main(String[] args) throws IOException {
        int[] tests = new int[39];
        try (DirectoryStream<Path> files = Files.newDirectoryStream(Path.of("src/test/java"), "*Test.java")) {
            for (Path file : files) {
                Matcher found = NAMED.matcher(Files.readString(file));
                while (found.find()) {
                    int n = found.group(2) == null ? 0 : Integer.parseInt(found.group(2));
                    Check.holds("a promise of the document: " + n, n < tests.length);
                    tests[Math.min(n, tests.length - 1)]++;
                }
            }
        }
        Check.holds("the terms have tests", tests[0] > 50);
        for (int n = 1; n < tests.length; n++) {
            Check.holds("promise " + n + " has a test", tests[n] > 0);
        }
        Check.end();
    }
}

import java.io.IOException;
import java.nio.file.DirectoryStream;
import java.nio.file.Files;
import java.nio.file.Path;

/** Each promise of the document is named by a test of its bounds. */
public final class PromisesTest {
    public static void main(String[] args) throws IOException {
        StringBuilder texts = new StringBuilder();
        try (DirectoryStream<Path> files = Files.newDirectoryStream(Path.of("src/test/java"), "*BoundsTest.java")) {
            for (Path file : files) {
                texts.append(Files.readString(file));
            }
        }
        for (int n = 1; n <= 31; n++) {
            Check.due("promise " + n + " is named", texts.indexOf("Check.promise(" + n + ", ") >= 0, true);
        }
        Check.end();
    }
}

import java.io.IOException;
import java.nio.charset.StandardCharsets;
import java.nio.file.Files;
import java.nio.file.Path;

/** The project's document, in which each sentence that a test is named after can be looked up. */
final class Document {
    private static final String TEXT = text();

    private Document() {
    }

    private static String text() {
        try {
            return Files.readString(Path.of("..", "shared", "DOC.md"), StandardCharsets.UTF_8);
        } catch (IOException e) {
            System.out.println("there is no document to look sentences up in");
            return null;
        }
    }

    /**
     * Whether the words stand under the heading that begins so; how wide their blanks are does not count. Without a
     * document nothing can be said against them.
     */
    static boolean says(String heading, String words) {
        if (TEXT == null) {
            return true;
        }
        int start = TEXT.indexOf("\n## " + heading);
        if (start < 0) {
            return false;
        }
        int next = TEXT.indexOf("\n## ", start + 1);
        String section = TEXT.substring(start, next < 0 ? TEXT.length() : next);
        return section.replaceAll("\\s+", " ").contains(words);
    }
}

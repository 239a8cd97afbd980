import java.io.IOException;
import java.nio.file.Files;
import java.nio.file.Path;
import java.util.LinkedHashMap;
import java.util.Map;

/** The document's own words: a test says which it looks at, and in the end none may be left that no test has said. */
final class Doc {
    private static final Path FILE = Path.of("../shared/DOC.md");
    private static final int PROMISES = 37;
    /** The sections beside the promises; FaceTest has the public face. */
    private static final String[] AROUND = {"What it is", "Terms", "Not promised"};
    private static final Map<String, Doc> PARTS = new LinkedHashMap<>();
    private static Doc now;
    private static String words = "";

    private final String title;
    private final String body;
    private final boolean[] said;

    private Doc(String title, String body) {
        this.title = title;
        this.body = body;
        said = new boolean[body.length()];
    }

    static void load() throws IOException {
        for (String part : Files.readString(FILE).split("\n## ")) {
            int end = part.indexOf('\n');
            String title = part.substring(0, end < 0 ? part.length() : end).trim();
            String plain = part.substring(title.length()).replaceAll("```(text)?|==== \\d\\.", " ")
                .replaceFirst("^\\s*`[^`]*`:", "").replaceAll("\\s+", " ");
            PARTS.put(title, new Doc(title, plain));
        }
    }

    /** The words that follow stand in this section, known by how its title begins. */
    static void open(String beginning) {
        now = null;
        for (Doc part : PARTS.values()) {
            if (part.title.startsWith(beginning)) {
                now = part;
            }
        }
        Check.due("the document has a section '" + beginning + "'", now != null, true);
    }

    /** What is due from here on is due by these words. */
    static void says(String sentence) {
        words = sentence;
        int at = now.body.indexOf(sentence);
        while (at >= 0 && now.said[at]) {
            at = now.body.indexOf(sentence, at + 1);
        }
        Check.due(now.title + " says '" + sentence + "'", at >= 0, true);
        for (int i = 0; at >= 0 && i < sentence.length(); i++) {
            now.said[at + i] = true;
        }
    }

    static void due(String call, long got, long want) {
        Check.due(now.title + ", '" + words + "': " + call, got, want);
    }

    static void due(String call, boolean got, boolean want) {
        due(call, got ? 1 : 0, want ? 1 : 0);
    }

    /** Each section that binds the class must have been said to its last word. */
    static void finish() {
        for (String title : AROUND) {
            open(title);
            now.wholeSaid();
        }
        for (int i = 1; i <= PROMISES; i++) {
            open("Promise " + i + ":");
            now.wholeSaid();
        }
    }

    private void wholeSaid() {
        StringBuilder left = new StringBuilder();
        for (int i = 0; i < said.length; i++) {
            if (!said[i] && Character.isLetterOrDigit(body.charAt(i))) {
                left.append(body.charAt(i));
            }
        }
        Check.due(title + " has words without a test: '" + left + "'", left.length(), 0);
    }
}

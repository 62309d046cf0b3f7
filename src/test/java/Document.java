import java.io.IOException;
import java.nio.file.Files;
import java.nio.file.Path;
import java.util.ArrayList;
import java.util.List;

/** ../shared/DOC.md: the words of each promise, and which of them a test has named. */
final class Document {
    static final int PROMISES = 34;

    private final String[] words = new String[PROMISES + 1];
    private final boolean[][] named = new boolean[PROMISES + 1][];

    Document(Path path) throws IOException {
        String all = Files.readString(path).replaceAll("\\s+", " ");
        int from = all.indexOf("## Terms");
        for (int promise = 0; promise <= PROMISES; promise++) {
            String next = promise < PROMISES ? "## Promise " + (promise + 1) + ":" : "## Not promised";
            int to = all.indexOf(next, from);
            words[promise] = all.substring(from, to);
            from = to;
        }
        // the face between them has FaceTest
        String life = all.substring(all.indexOf("An object is used"), all.indexOf("## The public face"));
        words[0] = life + words[0].replaceAll("## Terms|```text|```|\\b[12]\\. (?=NODES|ROW)", "");
        for (int promise = 0; promise <= PROMISES; promise++) {
            named[promise] = new boolean[words[promise].length()];
        }
    }

    /** Takes note that a test is of some words of a promise: false if it has no such words. */
    boolean name(int promise, String says) {
        int at = words[promise].indexOf(says);
        for (int from = at; from >= 0; from = words[promise].indexOf(says, from + 1)) {
            for (int i = 0; i < says.length(); i++) {
                named[promise][from + i] = true;
            }
        }
        return at >= 0;
    }

    /** What of a promise no test has named, its heading and the signature aside. */
    List<String> unnamed(int promise) {
        List<String> found = new ArrayList<>();
        int from = promise == 0 ? 0 : words[promise].lastIndexOf('`') + 1;
        StringBuilder run = new StringBuilder();
        for (int i = from; i <= words[promise].length(); i++) {
            if (i < words[promise].length() && !named[promise][i]) {
                run.append(words[promise].charAt(i));
                continue;
            }
            if (run.chars().anyMatch(Character::isLetterOrDigit)) {
                found.add(run.toString().trim());
            }
            run.setLength(0);
        }
        return found;
    }
}

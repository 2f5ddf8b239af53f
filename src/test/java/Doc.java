import java.io.IOException;
import java.nio.file.Files;
import java.nio.file.Path;

/** The document, so that each edge is tested beside the words that name it. */
final class Doc {
    static final int PROMISES = 45;

    private static final String[] SECTIONS = read();

    private Doc() {
    }

    /** Whether a promise has these words; promise 0 is what stands ahead of the first one: the Terms. */
    static boolean says(int promise, String words) {
        if (promise < 0 || promise > PROMISES) return false;
        return SECTIONS == null || SECTIONS[promise].contains(words);
    }

    /** The answers can be tested where the document is not at hand: then its words are not looked up. */
    private static String[] read() {
        String all;
        try {
            all = Files.readString(Path.of("../shared/DOC.md"));
        } catch (IOException e) {
            System.out.println("no ../shared/DOC.md: words are not looked up");
            return null;
        }
        String[] sections = new String[PROMISES + 1];
        int start = 0;
        for (int promise = 0; promise <= PROMISES; promise++) {
            String behind = promise < PROMISES ? "## Promise " + (promise + 1) + ":" : "## Not promised";
            int end = all.indexOf(behind, start);
            sections[promise] = all.substring(start, end).replaceAll("\\s+", " ");
            start = end;
        }
        return sections;
    }
}

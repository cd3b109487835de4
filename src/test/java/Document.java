import java.io.IOException;
import java.nio.file.Files;
import java.nio.file.Path;
import java.util.LinkedHashMap;
import java.util.Map;

/** The document by its places, and which of its words were named by a test. */
final class Document {
    private static final Path FILE = Path.of("..", "shared", "DOC.md");
    /** Each place, and the words it begins with: it goes on to where the next one begins. */
    private static final String[][] PLACES = {
        {"What it is", "An object is used for"}, {"", "## The public face"},
        {"Terms I", "I. LOADS 0 .. 5"}, {"Terms II", "II. TEXTS are on"}, {"Terms II, LAWS", "LAWS, 6 at most"},
        {"Terms II, ORDERS", "ORDERS: CLAUSE"}, {"Terms III", "III. TURN times"}, {"Terms IV", "IV. DAYS with"},
        {"The constants", "The constants: "}};
    private static final int PROMISES = 41;

    private final Map<String, String> texts = new LinkedHashMap<>();
    private final Map<String, boolean[]> named = new LinkedHashMap<>();

    static boolean isThere() {
        return Files.isReadable(FILE);
    }

    Document() throws IOException {
        String all = Files.readString(FILE).replace("```text", " ").replace("```", " ").replaceAll("\\s+", " ");
        int[] starts = new int[PLACES.length + PROMISES + 1];
        String[] names = new String[starts.length];
        int from = 0;
        for (int i = 0; i < starts.length; i++) {
            int promise = i - PLACES.length + 1;
            boolean last = i == starts.length - 1;
            String begins = i < PLACES.length ? PLACES[i][1] : last ? "## Not promised" : "## Promise " + promise + ":";
            names[i] = i < PLACES.length ? PLACES[i][0] : "Promise " + promise;
            starts[i] = all.indexOf(begins, from);
            if (starts[i] < 0) {
                throw new IOException("the document has no \"" + begins + "\" where it is looked for");
            }
            from = starts[i];
        }
        for (int i = 0; i + 1 < starts.length; i++) {
            String text = all.substring(starts[i], starts[i + 1]);
            // A promise's heading and signature are the face's, not its words.
            keep(names[i], i < PLACES.length ? text : text.substring(text.indexOf("`: ") + 3));
        }
    }

    private void keep(String place, String text) {
        texts.put(place, text);
        named.put(place, new boolean[text.length()]);
    }

    /** These words of that place are named; false if it has no such words, or has them no more often than they were named. */
    boolean name(String place, String words) {
        String text = texts.get(place);
        boolean[] seen = named.get(place);
        for (int at = text == null ? -1 : text.indexOf(words); at >= 0; at = text.indexOf(words, at + 1)) {
            boolean anew = false;
            for (int i = at; i < at + words.length(); i++) {
                anew |= !seen[i];
                seen[i] = true;
            }
            if (anew) {
                return true;
            }
        }
        return false;
    }

    /** What of that place no test has named: empty if there is none. */
    String unnamed(String place) {
        String text = texts.get(place);
        if (text == null) {
            return "no such place";
        }
        StringBuilder left = new StringBuilder();
        for (int i = 0; i < text.length(); i++) {
            boolean open = !named.get(place)[i];
            if (open && (Character.isLetterOrDigit(text.charAt(i)) || left.length() > 0)) {
                left.append(text.charAt(i));
            } else if (left.length() > 0 && left.charAt(left.length() - 1) != '|') {
                left.append('|');
            }
        }
        return left.toString().replaceAll("[^A-Za-z0-9]*$", "");
    }
}

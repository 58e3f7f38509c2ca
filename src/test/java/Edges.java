import java.io.IOException;
import java.nio.file.Files;
import java.nio.file.Path;
import java.util.HashMap;
import java.util.Map;

/**
 * Checks that each quote the sentence of the document they hold to: words that the document has not
 * are told as wrong, and in the end so are its terms and promises that no check has quoted.
 */
final class Edges {
    static final int NONE = FireRows.NONE, BAD = FireRows.BAD, STATE = FireRows.STATE, FULL = FireRows.FULL;
    static final int NULL = Checks.NULL, PLACE = Checks.PLACE, KIND = Checks.KIND, SIZE = Checks.SIZE, STORE = Checks.STORE;
    static final int LEAST = Integer.MIN_VALUE, MOST = Integer.MAX_VALUE;
    static final int PROMISES = 41;
    static final String FLOOR = "floor 9 1 0;", FIRE = "fire 0 0 0 0 1 0;", STORY = "story stays 1;";
    /** A floor at rest, a fire at 0, 0 that reaches 5 far, houses that tell ages as they are. */
    static final String REST = "floor 1 0 0;fire 0 0 0 0 10 5;house 0 0;house 0 5;" + STORY;
    private static final Path DOC = Path.of("../shared/DOC.md");

    private final Checks checks = new Checks("EdgesTest");
    private final Map<String, String> words = new HashMap<>();
    private final Map<String, boolean[]> quoted = new HashMap<>();
    private String at = "";

    Edges() throws IOException {
        for (String part : Files.readString(DOC).split("(?m)^## ")) {
            String name = part.replaceAll("(?s)[:\n].*", "");
            String text = part.substring(part.indexOf('\n') + 1).replaceAll("(?s)Ahead of the calls.*", "")
                .replaceAll("```text|```|========", " ").replaceAll("(?m)^`.*?`:", " ").replaceAll("\\s+", " ").trim();
            words.put(name, text);
            quoted.put(name, new boolean[text.length()]);
        }
    }

    void terms(String sentence) {
        quote("Terms", sentence);
    }

    void promise(int number, String sentence) {
        quote("Promise " + number, sentence);
    }

    void quote(String section, String sentence) {
        String text = words.getOrDefault(section, "");
        int from = text.indexOf(sentence);
        at = section + ", '" + sentence + "'";
        checks.due(at + " stands in the document once", 1, from >= 0 && from == text.lastIndexOf(sentence) ? 1 : 0);
        for (int i = from; i >= 0 && i < from + sentence.length(); i++) {
            quoted.get(section)[i] = true;
        }
    }

    void due(String what, int want, int got) {
        checks.due(at + ": " + what, want, got);
    }

    void end() {
        unquoted("Terms");
        for (int number = 1; number <= PROMISES; number++) {
            unquoted("Promise " + number);
        }
        checks.end();
    }

    private void unquoted(String section) {
        String text = words.getOrDefault(section, "it is missing");
        boolean[] seen = quoted.getOrDefault(section, new boolean[text.length()]);
        StringBuilder left = new StringBuilder();
        for (int i = 0; i < text.length(); i++) {
            left.append(seen[i] ? ' ' : text.charAt(i));
        }
        String rest = left.toString().replaceAll(" +", " ").trim();
        checks.due(section + ": no check quotes '" + rest + "'", 0, rest.matches("[ .,;:]*") ? 0 : 1);
    }

    // ---- what the groups share

    /** A world with as many hills as told, all at 0, 0. */
    static FireRows rest(int hills) {
        FireRows x = Checks.world(REST);
        for (int h = 0; h < hills; h++) {
            x.hill(0, 0);
        }
        return x;
    }

    /** Lower end, upper end and AGAIN of a hill. */
    void ends(FireRows x, String of, int hill, int lower, int upper, int again) {
        due(of + ", lower end", lower, x.told(hill, 3));
        due(of + ", upper end", upper, x.told(hill, 4));
        due(of + ", again", again, x.told(hill, 5));
    }

    /** Items of a sheet, by pairs, seen as places of hills; there is a floor, image 1 is used up. */
    void items(FireRows x, String of, int sheet, int... want) {
        x.image(1);
        Checks.read(x, REST);
        x.hills(sheet, 0, want.length / 2);
        for (int i = 0; i < want.length; i++) {
            due(of + ", item " + i, want[i], x.told(i / 2, i % 2));
        }
        x.restore(1);
    }

    void statusIs(FireRows x, String of, int want) {
        due(of + ", status", want, x.status());
    }
}

import java.io.IOException;
import java.io.UncheckedIOException;
import java.nio.file.Files;
import java.nio.file.Path;
import java.util.Arrays;

/** What the tests of edges share: the sentence that is tested, what is outside of bounds, all that is seen of a road. */
final class Edges {
    private static final int NONE = RoadOfDoors.NONE;
    private static final Path DOCUMENT = Path.of("../shared/DOC.md");
    /** The tape and the latest fault, which an image does not hold, stand at the end of what is seen. */
    private static final int OF_TAPE = 3;

    private final Checks checks = new Checks();
    private final String document = document();
    private String sentence = "";

    /** The document as it is; empty, where it is not at hand. */
    static String rawDocument() {
        try {
            return Files.exists(DOCUMENT) ? Files.readString(DOCUMENT) : "";
        } catch (IOException e) {
            throw new UncheckedIOException(e);
        }
    }

    /** In one line, and without the frames around its terms. */
    private static String document() {
        return flat(rawDocument().replaceAll("```(text)?", ""));
    }

    static String flat(String text) {
        return text.replaceAll("\\s+", " ").trim();
    }

    /** The sentence of the document that the next checks are about. */
    void says(String quote) {
        sentence = quote;
        checks.due("stands in the document: " + quote, document.isEmpty() || document.contains(flat(quote)), true);
    }

    void due(String call, int got, int want) {
        checks.due("[" + sentence + "] " + call, got, want);
    }

    void due(String call, boolean got, boolean want) {
        checks.due("[" + sentence + "] " + call, got, want);
    }

    void end() {
        checks.end();
    }

    /** The nearest on either side, those that a byte would take for allowed ones, and the farthest. */
    static int[] outside(int low, int high) {
        return new int[] {low - 1, high + 1, low - 256, high + 256, Integer.MIN_VALUE, Integer.MAX_VALUE};
    }

    /** All that about, traveller and fault tell: 57 calls. */
    static int[] all(RoadOfDoors x) {
        int[] all = new int[5 + 8 + 8 + 24 + 6 + OF_TAPE];
        int n = 0;
        for (int what = 0; what < 5; what++) {
            all[n++] = x.about(what);
        }
        for (int door = 0; door < 8; door++) {
            all[n++] = x.about(10 + door);
            all[n++] = x.about(20 + door);
        }
        for (int hour = 0; hour < 24; hour++) {
            all[n++] = x.about(30 + hour);
        }
        for (int what = 0; what < 6; what++) {
            all[n++] = x.traveller(what);
        }
        all[n++] = x.about(5);
        all[n++] = x.fault(0);
        all[n] = x.fault(1);
        return all;
    }

    void stays(String what, RoadOfDoors x, int[] before) {
        checks.due("[" + sentence + "] all stays: " + what, Arrays.equals(all(x), before), true);
    }

    void staysButTape(String what, RoadOfDoors x, int[] before) {
        int[] now = all(x);
        int length = now.length - OF_TAPE;
        checks.due("[" + sentence + "] all but tape and fault is as it was: " + what,
                Arrays.equals(Arrays.copyOf(now, length), Arrays.copyOf(before, length)), true);
    }

    /** The traveller's door, hour, waited and purse, and the steps that can be taken back. */
    void travellerIs(String what, RoadOfDoors x, int door, int hour, int waited, int purse, int steps) {
        due(what + ": door", x.traveller(0), door);
        due(what + ": hour", x.traveller(1), hour);
        due(what + ": waited", x.traveller(2), waited);
        due(what + ": purse", x.traveller(3), purse);
        due(what + ": steps", x.about(2), steps);
    }

    /** A road whose doors 0 .. are hinged off: the traveller comes to the door told by a knock each. */
    static void goesTo(RoadOfDoors x, int door) {
        for (int i = 0; i < door; i++) {
            x.hinge(i, false);
            x.knock(1, 0);
        }
    }

    /** None of the texts is kept by a door yet. */
    static RoadOfDoors told(int doors, String... texts) {
        RoadOfDoors x = new RoadOfDoors(doors);
        for (String text : texts) {
            Checks.tell(x, text);
        }
        return x;
    }

    /** Door by door the texts, in their order; the last keeps the rest too. */
    static RoadOfDoors kept(int doors, String... texts) {
        RoadOfDoors x = told(doors, texts);
        for (int door = 0; door < doors; door++) {
            x.keep(door, Math.min(door, texts.length - 1));
        }
        return x;
    }

    static RoadOfDoors unhinged(int doors) {
        RoadOfDoors x = new RoadOfDoors(doors);
        for (int door = 0; door < doors; door++) {
            x.hinge(door, false);
        }
        return x;
    }

    /** Tells all the rules by their numbers. */
    static void rules(RoadOfDoors x, int... rules) {
        for (int door = 0; door < rules.length; door++) {
            x.keep(door, rules[door]);
        }
    }
}

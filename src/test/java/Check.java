import java.io.IOException;
import java.io.UncheckedIOException;
import java.nio.file.Files;
import java.nio.file.Path;
import java.util.Objects;

/** Compares answers with what is due, prints what differs, and ends with exit code 1 if anything did. */
final class Check {
    /** DOC.md, with one blank for each run of them. */
    static final String DOCUMENT = document();
    private int wrong;
    private String sentence = "";

    private static String document() {
        String root = System.getenv("THROWN_OVER_ROOT");
        try {
            return spaced(Files.readString(Path.of(root == null ? "." : root, "..", "shared", "DOC.md")));
        } catch (IOException e) {
            throw new UncheckedIOException(e);
        }
    }

    private static String spaced(String words) {
        return words.replaceAll("\\s+", " ");
    }

    /** The words of the document that all answers from here on are due by. */
    void sentence(String words) {
        sentence = "";
        if (!DOCUMENT.contains(words)) {
            say("the document does not say: " + words);
        }
        sentence = "[" + words + "] ";
    }

    void due(String call, long got, long want) {
        if (got != want) {
            say(call + " answered " + got + ", due is " + want);
        }
    }

    void due(String what, Object got, Object want) {
        if (!Objects.equals(got, want)) {
            say(what + " is " + got + ", due is " + want);
        }
    }

    /** THE FRACTION, as it stands. */
    void fraction(String call, ThrownOver x, long above, long below) {
        due(call + ": above", x.part(0), above);
        due(call + ": below", x.part(1), below);
    }

    void status(String when, ThrownOver x, int bad, int no, int full) {
        due(when + ": status(0)", x.status(0), bad);
        due(when + ": status(1)", x.status(1), no);
        due(when + ": status(2)", x.status(2), full);
    }

    void say(String what) {
        wrong++;
        if (wrong <= 50) {
            System.out.println(sentence + what);
        }
    }

    void end() {
        if (wrong != 0) {
            System.out.println(wrong + " answers are not as due");
            System.exit(1);
        }
    }

    static void type(ThrownOver x, String text) {
        for (int i = 0; i < text.length(); i++) {
            x.type(text.charAt(i));
        }
    }

    /** The text takes the place of the one that was there, and is read. */
    static int read(ThrownOver x, String text) {
        x.clear();
        type(x, text);
        return x.read();
    }
}

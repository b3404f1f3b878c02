import java.io.IOException;
import java.nio.charset.StandardCharsets;
import java.nio.file.Files;
import java.nio.file.Path;

/** What the tests share: texts onto the tape, answers held against what is due, seeds with known draws. */
final class Checks {
    static final int THROWS = -7777;
    private static final Path DOCUMENT = Path.of("../shared/DOC.md");

    interface Call {
        long answer();
    }

    private int wrong = 0;
    private int asked = 0;
    private String sentence = "";
    private String document = null;

    /** The next answers are about this sentence, which must stand in the document as it is written here. */
    void says(String words) {
        sentence = "\"" + words + "\": ";
        if (document == null) {
            document = Files.exists(DOCUMENT) ? read(DOCUMENT) : "";
        }
        is("the document's words", document.isEmpty() || document.contains(plain(words)), true);
    }

    private static String read(Path path) {
        try {
            return plain(Files.readString(path, StandardCharsets.UTF_8));
        } catch (IOException e) {
            throw new AssertionError(e);
        }
    }

    private static String plain(String text) {
        return text.replace("`", "").replaceAll("\\s+", " ");
    }

    void is(String what, long got, long want) {
        asked++;
        if (got != want) {
            wrong++;
            System.out.println(sentence + what + " answered " + got + ", due is " + want);
        }
    }

    void is(String what, boolean got, boolean want) {
        is(what, got ? 1 : 0, want ? 1 : 0);
    }

    void throwsNoSuch(String what, Call call) {
        long got;
        try {
            got = call.answer();
        } catch (java.util.NoSuchElementException e) {
            got = THROWS;
        }
        is(what + " throws", got, THROWS);
    }

    void close(String name) {
        System.out.println(name + ": " + (asked - wrong) + " answers as due, " + wrong + " not");
        if (wrong != 0) {
            System.exit(1);
        }
    }

    void landIs(String text, int lines) {
        RoadToPort x = new RoadToPort();
        is("land of \"" + text + "\"", land(x, text), lines);
        is("fault of \"" + text + "\"", x.fault(), 0);
    }

    void landFault(String text, int kind, int place) {
        RoadToPort x = new RoadToPort();
        is("land of \"" + text + "\"", land(x, text), -1 - place);
        is("fault of \"" + text + "\"", x.fault(), kind);
    }

    void bookIs(String land, String text, int line) {
        RoadToPort x = landOf(land);
        is("book of \"" + text + "\"", book(x, text, 0), line);
        is("fault of \"" + text + "\"", x.fault(), 0);
    }

    void bookFault(String land, String text, int kind, int place) {
        RoadToPort x = landOf(land);
        is("book of \"" + text + "\"", book(x, text, 0), -2 - place);
        is("fault of \"" + text + "\"", x.fault(), kind);
    }

    void sentenceIs(String land, String text, int ones) {
        RoadToPort x = landOf(land);
        is("sentence of \"" + text + "\"", sentence(x, text), ones);
        is("fault of \"" + text + "\"", x.fault(), 0);
    }

    void sentenceFault(String land, String text, int kind, int place) {
        RoadToPort x = landOf(land);
        is("sentence of \"" + text + "\"", sentence(x, text), -1 - place);
        is("fault of \"" + text + "\"", x.fault(), kind);
    }

    static String filled(String text, int length) {
        return text + " ".repeat(length - text.length());
    }

    static void tell(RoadToPort x, String text) {
        int before = x.count(4);
        for (int i = 0; i < text.length(); i += 20) {
            int[] n = new int[5];
            for (int k = 0; k < 20; k++) {
                n[k / 4] = n[k / 4] << 8 | (i + k < text.length() ? text.charAt(i + k) : 0);
            }
            x.feed(n[0], n[1], n[2], n[3], n[4]);
        }
        x.end(before + text.length());
    }

    static RoadToPort landOf(String text) {
        RoadToPort x = new RoadToPort();
        if (land(x, text) < 0) {
            throw new AssertionError("the land is wrong: " + text);
        }
        return x;
    }

    static int land(RoadToPort x, String text) {
        tell(x, text);
        return x.land();
    }

    static int book(RoadToPort x, String text, int lives) {
        tell(x, text);
        return x.book(lives);
    }

    static int sentence(RoadToPort x, String text) {
        tell(x, text);
        return x.sentence();
    }

    static String oath(RoadToPort x, int m) {
        StringBuilder text = new StringBuilder();
        int n = x.oath(m);
        for (int i = 0; i < n; i++) {
            text.append((char) x.byteAt(i));
        }
        return text.toString();
    }

    /** A seed whose first draws, of the numbers named, are from low to high each: rows of of, low, high. */
    static int seed(int[]... draws) {
        for (int seed = 1; seed < 10000000; seed++) {
            int x = seed;
            boolean fits = true;
            for (int k = 0; k < draws.length && fits; k++) {
                x = x * 1103515245 + 12345;
                int draw = (x >>> 8) % draws[k][0];
                fits = draw >= draws[k][1] && draw <= draws[k][2];
            }
            if (fits) {
                return seed;
            }
        }
        throw new AssertionError("no such seed");
    }

    static int[] draw(int of, int low, int high) {
        return new int[] {of, low, high};
    }
}

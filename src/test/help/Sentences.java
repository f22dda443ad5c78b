import java.io.IOException;
import java.nio.charset.StandardCharsets;
import java.nio.file.Files;
import java.nio.file.Path;
import java.util.Arrays;

/**
 * The sentence of the document that is tested, and what is due by it. A sentence is
 * told in the document's own words, so that a test can't drift away from them.
 */
final class Sentences {

    private static final int SHOWN = 20;

    /** Part 0 is all ahead of promise 1, part n the text of promise n. */
    private final String[] parts;
    private final boolean[] quoted;
    private String words = "";
    private int ofThese = 1;
    private int sentences = 0;
    private int checks = 0;
    private int wrong = 0;

    Sentences() throws IOException {
        String whole = new String(Files.readAllBytes(Path.of("../shared/DOC.md")), StandardCharsets.UTF_8);
        parts = whole.replaceAll("\\s+", " ").split("## Promise \\d+: ");
        quoted = new boolean[parts.length];
    }

    /** The checks behind this are of these words, that stand in a promise, or in the terms (0). */
    void of(int promise, String quote) {
        endSentence();
        words = promise + ": " + quote;
        sentences++;
        ofThese = 0;
        quoted[promise] = true;
        if (!parts[promise].contains(quote)) fail("does not stand in the document");
    }

    private void endSentence() {
        if (ofThese == 0) fail("has no test");
    }

    private void fail(String what) {
        wrong++;
        if (wrong <= SHOWN) System.out.println("\"" + words + "\" " + what);
    }

    void due(String what, long got, long due) {
        checks++;
        ofThese++;
        if (got != due) fail(what + " answered " + got + ", due is " + due);
    }

    void due(long got, long due) {
        due("", got, due);
    }

    /** What a call answers behind a scene, and that it changes nothing that can be seen. */
    void stays(Scene scene, long due, String name, int... told) {
        String call = name + Arrays.toString(told);
        due(call, Scene.call(scene.make(), name, told), due);
        if (!scene.with(name, told).seen().equals(scene.seen())) fail(call + " changed something");
    }

    /** The same for a number that is told in turn as each of some, at a place of the call's numbers. */
    void staysForEach(Scene scene, long due, int place, int[] some, String name, int... told) {
        for (int number : some) {
            int[] each = told.clone();
            each[place] = number;
            stays(scene, due, name, each);
        }
    }

    /** Numbers just and far outside of low .. high. */
    static int[] outside(int low, int high) {
        return new int[] {low - 1, high + 1, low - 2, high + 2, Integer.MIN_VALUE, Integer.MAX_VALUE};
    }

    void end(String name, int from, int to) {
        endSentence();
        words = name;
        for (int promise = from; promise <= to; promise++) {
            if (!quoted[promise]) fail("quotes nothing of " + promise);
        }
        System.out.println(name + ": " + sentences + " sentences, " + checks + " checks, " + wrong + " not as due");
        if (wrong != 0) System.exit(1);
    }
}

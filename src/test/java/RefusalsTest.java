import java.io.IOException;
import java.util.List;

/** What the terms say of all refusals, and of all that is asked: the order, and that nothing changes. */
public final class RefusalsTest {

    private static final long NO = SaidTwice.NO;
    private static final int NONE = -1, BAD = -2, STATE = -3, FULL = -4;
    private static final int[] FAR = {Integer.MIN_VALUE, Integer.MAX_VALUE, -2, 13, 41, 300, 100000};

    /** Each with the greatest of its numbers that can be of use. */
    private static final String[] ASKED = {"count 4", "asks 6 31 4 2", "means 6 1", "pairs 4", "told 5 2", "said 12 2", "worlds", "behind 12 3", "cannot",
        "lies", "least 1", "mad 1", "habit 5 31 1", "kinds 5 31", "ask 2", "two 1", "parts 5 6 3", "hide 5 31 4", "same 6 6 1", "claims 6", "settle 1",
        "thrice 6 6 6", "many 7", "judge 3 31", "drawn 99999", "mean 99999 10 1", "taken 16 6"};
    private static final String[] CHANGING = {"feed 5 255 255 255 255 255", "text", "force 6", "speaker 5 9", "turn 5 5 9", "say 5 6 1", "unsay", "film 3",
        "image", "back", "sheet 3 2 40", "cell 3 40 3", "copy 3 9 3 9 9", "sayingsBy 3 2 36 12"};

    private static final Scene EMPTY = Scene.EMPTY;
    private static final Scene SOME = EMPTY.fair("a").text("b", "a", "who+7").with("speaker", 3, 1).with("speaker", 5, 3).with("say", 0, 1, 1).with("image")
        .with("say", 1, 2, 1).row(0, 0, 0, 1, 1, 1, 2, 0, 0, 0, 1).row(1, 1, 1, 1, 0, 0, 1, 0, 1).with("sheet", 2, 2, 0).feed("once b;twice a;costs 9;");
    private static final Scene FULL_ONE = full();

    private static Sentences due;

    private static Scene full() {
        Scene scene = EMPTY.fair("a").fair("b").fair("c").fair("d").fair("e");
        for (int kind = 0; kind < 5; kind++) scene = scene.with("speaker", kind, 9 - kind);
        for (int k = 0; k < 12; k++) scene = scene.with("say", 0, 1 + k % 5, k % 2);
        return scene.row(0, 2, 0, 1, 0, 4, 5, 1, 2, 2, 1).with("sheet", 1, 0, 40).with("sheet", 2, 1, 39).feed(" ".repeat(160));
    }

    private static void order() {
        due.of(0, "REFUSALS, of several the first one told");
        due.stays(FULL_ONE, BAD, "feed", 0, 0, 0, 0, 0, 0);
        due.stays(FULL_ONE, BAD, "feed", 1, 0, 0, 0, 0, 256);
        due.stays(FULL_ONE, FULL, "text");
        due.stays(FULL_ONE, -5, "asks", 6, 32, 5, 3);
        due.stays(FULL_ONE, -5, "asks", 0, 32, 5, 3);
        due.stays(FULL_ONE, BAD, "speaker", 6, 0);
        due.stays(FULL_ONE, BAD, "speaker", 0, 10);
        due.stays(FULL_ONE, -5, "turn", 5, 6, 10);
        due.stays(FULL_ONE, -5, "told", 5, 3);
        due.stays(FULL_ONE, -5, "say", 5, 0, 2);
        due.stays(FULL_ONE, -5, "say", 0, 6, 2);
        due.stays(FULL_ONE, -5, "say", 5, 0, 0);
        due.stays(FULL_ONE, -5, "say", 0, 6, 0);
        due.stays(FULL_ONE, -7, "say", 0, 0, 2);
        due.stays(FULL_ONE, -5, "said", 12, 3);
        due.stays(FULL_ONE, -5, "behind", 13, 4);
        due.stays(FULL_ONE, -5, "same", 6, 0, 2);
        due.stays(FULL_ONE, -5, "same", 0, 6, 2);
        orderOfSheets();
        due.of(0, "(a -1 that is an answer comes behind the refusal of a number)");
        for (String name : new String[] {"ask", "two", "settle"}) due.stays(EMPTY, BAD, name, 3);
        Scene lawless = EMPTY.text("0", "1", "1").with("force", 1);
        for (String name : new String[] {"least", "mad", "ask", "two", "many", "drawn"}) {
            due.stays(lawless, BAD, name, -1);
            due.stays(lawless, NONE, name, 0);
        }
    }

    private static void orderOfSheets() {
        due.stays(SOME, BAD, "judge", 4, 32);
        due.stays(SOME, -11, "judge", 3, 32);
        due.stays(SOME, BAD, "judge", 1, 32);
        due.stays(SOME, -5, "judge", 0, 32);
        due.stays(SOME, BAD, "sheet", 4, 0, -1);
        due.stays(SOME, BAD, "sheet", 0, 3, -1);
        due.stays(SOME, BAD, "sheet", 0, -2, -1);
        due.stays(SOME, -14, "sheet", 0, 0, -1);
        due.stays(SOME, BAD, "cell", 4, -1, 0);
        due.stays(SOME, -11, "cell", 3, -1, 0);
        due.stays(SOME, -12, "cell", 0, -1, 0);
        due.stays(SOME, BAD, "copy", 4, -1, 3, -1, -1);
        due.stays(SOME, BAD, "copy", 3, -1, 4, -1, -1);
        due.stays(SOME, -11, "copy", 3, -1, 0, -1, -1);
        due.stays(SOME, -11, "copy", 0, -1, 3, -1, -1);
        due.stays(SOME, -13, "copy", 0, -1, 1, -1, -1);
        due.stays(SOME, -12, "copy", 0, -1, 0, -1, -1);
        due.stays(SOME, BAD, "sayingsBy", 4, 0, -1, 1);
        due.stays(SOME, BAD, "sayingsBy", 3, 3, -1, 1);
        due.stays(SOME, BAD, "sayingsBy", 3, 0, -1, 13);
        due.stays(SOME, -11, "sayingsBy", 3, 0, -1, 1);
        due.stays(SOME, -13, "sayingsBy", 0, 1, -1, 1);
        due.stays(SOME, -12, "sayingsBy", 0, 0, -1, 1);
        due.stays(SOME, BAD, "taken", 17, 7);
        due.stays(SOME, -12, "taken", 17, 6);
        due.stays(SOME, -11, "taken", 2, 0);
        due.stays(SOME, -11, "taken", 14, 6);
        due.stays(SOME, -13, "taken", 0, 0);
        due.stays(SOME, -13, "taken", 12, 6);
    }

    private static long state = 5;

    private static int below(int bound) {
        state = state * 6364136223846793005L + 1442695040888963407L;
        return (int) ((state >>> 33) % bound);
    }

    private static int[] byLot(String[] words) {
        int[] told = new int[words.length - 1];
        for (int i = 0; i < told.length; i++) {
            int greatest = Integer.parseInt(words[i + 1]);
            told[i] = below(8) == 0 ? FAR[below(FAR.length)] : below(16) == 0 ? -1 : below(Math.min(greatest, below(2) == 0 ? greatest : 2) + 2);
        }
        return told;
    }

    private static void stays(Scene scene, String name, int[] told) {
        due.stays(scene, Scene.call(scene.make(), name, told), name, told);
    }

    private static void asked() {
        due.of(0, "What is asked changes nothing, but where it is told.");
        for (Scene scene : List.of(EMPTY, SOME, FULL_ONE)) {
            for (String call : ASKED) {
                String[] words = call.split(" ");
                for (int i = 0; i < 25; i++) stays(scene, words[0], byLot(words));
            }
        }
    }

    /** What is told: a tape is empty behind its fault, and what stood ahead of a place outside came. */
    private static boolean mayChange(String name, long answer) {
        return answer >= 0 || name.equals("text") && answer <= -100 || name.equals("sayingsBy") && answer == -12;
    }

    private static void refused() {
        due.of(0, "They change nothing, but where it is told.");
        int refusals = 0;
        for (Scene scene : List.of(EMPTY, SOME, FULL_ONE)) {
            for (String call : CHANGING) {
                String[] words = call.split(" ");
                for (int i = 0; i < 100; i++) {
                    int[] told = byLot(words);
                    if (mayChange(words[0], Scene.call(scene.make(), words[0], told))) continue;
                    stays(scene, words[0], told);
                    refusals++;
                }
            }
        }
        due.due("enough were refused", refusals > 1000 ? 1 : 0, 1);
    }

    /** That the scenes show each change, else all that stays would say nothing. */
    private static void changesShow() {
        due.of(0, "They change nothing, but where it is told. What is asked changes nothing");
        String[] calls = {"feed 1 32 0 0 0 0", "text", "force 1", "speaker 0 0", "turn 0 3 2", "turn 1 4 3", "say 0 0 0", "unsay", "image", "back",
            "sheet 0 0 6", "sheet 0 1 9", "sheet 0 -1 0", "sheet 1 1 0", "sheet 2 2 1", "sheet 2 0 0", "sheet 3 0 0", "film 3", "cell 0 0 1", "cell 0 4 1",
            "cell 0 8 0", "cell 1 0 0", "cell 1 5 1", "copy 0 0 0 2 1", "sayingsBy 0 0 0 1"};
        for (String call : calls) {
            String[] words = call.split(" ");
            int[] told = new int[words.length - 1];
            for (int i = 0; i < told.length; i++) told[i] = Integer.parseInt(words[i + 1]);
            due.due(call + " shows", SOME.with(words[0], told).seen().equals(SOME.seen()) ? 0 : 1, 1);
        }
        due.due("no number of a refusal is another's", List.of(NONE, BAD, STATE, FULL, -5, -7, -11, -12, -13, -14, NO).stream().distinct().count(), 11);
    }

    public static void main(String[] arguments) throws IOException {
        due = new Sentences();
        order();
        asked();
        refused();
        changesShow();
        due.end("refusals", 0, 0);
    }
}

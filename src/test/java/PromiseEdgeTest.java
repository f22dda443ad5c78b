import java.io.IOException;
import java.util.Arrays;

/** The edges that the promises name, sentence by sentence: what is just right, and what is refused. */
public final class PromiseEdgeTest {

    private static final long NO = SaidTwice.NO;
    private static final int BAD = -2, STATE = -3, FULL = -4;
    private static final int SPEAKER = 0, EARLY = 1, LATE = 2, TURNING = 3, MAD = 4, HIDER = 5;
    private static final int MIN = Integer.MIN_VALUE, MAX = Integer.MAX_VALUE;
    private static final long ALL = 0xFFFFFFFFL;
    private static final long A = 0xAAAAAAAAL, B = 0xCCCCCCCCL, C = 0xF0F0F0F0L, D = 0xFF00FF00L, E = 0xFFFF0000L;
    private static final long WORLD31 = 0x80000000L;
    private static final String ALWAYS = "once 1;twice 0;costs 1;";

    private static final Scene EMPTY = Scene.EMPTY;

    /** Some of all: texts 0 .. 2, speakers 0 and 1, two sayings, an image of one, sheets, a tape. */
    private static final Scene RICH = EMPTY.fair("a").text("b", "a", "who+7")
        .with("speaker", TURNING, 1).with("speaker", HIDER, 3).with("say", 0, 1, 1).with("image").with("say", 1, 2, 1)
        .row(0, 0, 0, 1, 1, 1, 2, 0, 0, 0, 1).row(1, 1, 1, 1, 0, 0, 1, 0, 1).with("sheet", 2, 2, 0).feed("once b;tw");

    /** As much as can be: six texts, five speakers, twelve sayings that world 31 fits, a tape of 160. */
    private static final Scene WHOLE = whole();

    /** A talk that no world fits. */
    private static final Scene TORN = EMPTY.fair("a").with("speaker", EARLY, 0).with("say", 0, 1, 0).with("say", 0, 1, 1);

    /** A law that is so nowhere. */
    private static final Scene LAWLESS = EMPTY.text("0", "1", "1").with("force", 1).with("speaker", SPEAKER, 0);

    private static final Scene[] SCENES = {EMPTY, RICH, WHOLE, TORN, LAWLESS};

    private static Sentences due;

    private static Scene whole() {
        Scene scene = ofThings();
        for (int kind = 1; kind < 5; kind++) scene = scene.with("speaker", kind, 9);
        for (int k = 0; k < 12; k++) scene = scene.with("say", 0, 1 + k % 5, 0);
        for (int s = 0; s < 4; s++) {
            scene = scene.with("sheet", s, s % 3, 40);
            for (int i = 0; i < 6; i++) scene = scene.with("cell", s, i, (i + s) % 2);
        }
        return scene.with("image").feed("once b;" + " ".repeat(153));
    }

    /** An early speaker and texts 1 .. 5 of a .. e. */
    private static Scene ofThings() {
        return EMPTY.fair("a").fair("b").fair("c").fair("d").fair("e").with("speaker", EARLY, 0);
    }

    private static void inAll(long answer, String name, int... told) {
        for (Scene scene : SCENES) due.stays(scene, answer, name, told);
    }

    private static void inAllForEach(long answer, int place, int[] some, String name, int... told) {
        for (Scene scene : SCENES) due.staysForEach(scene, answer, place, some, name, told);
    }

    private static int[] outside(int low, int high) {
        return Sentences.outside(low, high);
    }

    private static void ofNew() {
        due.of(1, "No SPEAKERS, nothing said.");
        due.stays(EMPTY, 0, "count", 0);
        due.stays(EMPTY, 0, "count", 1);
        due.stays(EMPTY, 0, "count", 4);
        for (int s = 0; s < 5; s++) due.stays(EMPTY, -5, "told", s, 0);
        for (int k = 0; k < 12; k++) due.stays(EMPTY, -5, "said", k, 0);
        for (int i = 0; i < 17; i++) due.stays(EMPTY, -11, "taken", i, i < 12 ? 6 : 0);
        due.stays(EMPTY, STATE, "unsay");
        due.stays(EMPTY, STATE, "back");
        due.stays(EMPTY, ALL, "worlds");
    }

    private static void ofCount() {
        due.of(2, "0 SPEAKERS, 1 SAYINGS, 2 TEXTS, 3 THE LAW, 4 bytes of THE TAPE.");
        int[] none = {0, 0, 1, 0, 0};
        int[] all = {5, 12, 6, 5, 160};
        for (int what = 0; what < 5; what++) {
            due.stays(EMPTY, none[what], "count", what);
            due.stays(WHOLE.with("force", 5), all[what], "count", what);
        }
        due.of(2, "BAD.");
        inAllForEach(BAD, 0, outside(0, 4), "count", 0);
    }

    private static void ofFeed() {
        due.of(3, "The first n (1 .. 5) of five bytes (0 .. 255 each) come behind THE TAPE's, one by one: how many it has.");
        for (int n = 1; n <= 5; n++) {
            SaidTwice x = new SaidTwice();
            due.due("feed " + n, x.feed(n, 'o', 'n', 'c', 'e', ' '), n);
            due.due("feed the rest", Scene.call(x, "feed", 5, 'c', 'e', ' ', 'a', 'b'), n + 5);
            due.due("feed " + n, x.text(), n == 2 || n == 5 ? -105 : -100);
        }
        due.due("bytes 0", new SaidTwice().feed(5, 0, 0, 0, 0, 0), 5);
        due.due("bytes 255", new SaidTwice().feed(5, 255, 255, 255, 255, 255), 5);
        due.of(3, "BAD: n, any of the five");
        inAllForEach(BAD, 0, outside(1, 5), "feed", 1, 32, 32, 32, 32, 32);
        for (int place = 1; place <= 5; place++) {
            inAllForEach(BAD, place, outside(0, 255), "feed", 1, 32, 32, 32, 32, 32);
            inAllForEach(BAD, place, outside(0, 255), "feed", 5, 32, 32, 32, 32, 32);
        }
        due.of(3, "FULL: they have not all room (none comes).");
        for (int more = 0; more < 6; more++) {
            Scene scene = EMPTY.feed(" ".repeat(160 - more));
            for (int n = 1; n <= 5; n++) {
                if (n > more) due.stays(scene, FULL, "feed", n, 32, 32, 32, 32, 32);
                else due.due("room for " + more, scene.make().feed(n, 32, 32, 32, 32, 32), 160 - more + n);
            }
        }
    }

    private static void ofText() {
        due.of(4, "THE TAPE, which is empty then (by a FAULT, too), is a TEXT: its number; -100 less the place of its FAULT.");
        String[] tapes = {"", "?", ALWAYS, ALWAYS + "?", " ".repeat(160), " ".repeat(159) + "?", "once b;tw"};
        int[] answers = {-100, -100, 1, -123, -260, -259, -107};
        for (int i = 0; i < tapes.length; i++) {
            SaidTwice x = EMPTY.feed(tapes[i]).make();
            due.due(tapes[i], x.text(), answers[i]);
            due.due("the tape behind " + tapes[i], x.count(4), 0);
            due.due("texts behind " + tapes[i], x.count(2), answers[i] == 1 ? 2 : 1);
            due.due("an empty tape", x.text(), -100);
        }
        due.due("a fault changes nothing else", RICH.with("text").with("text").seen().equals(RICH.with("text").seen()) ? 1 : 0, 1);
        due.of(4, "FULL (ahead of the FAULT; then THE TAPE stays).");
        for (String tape : tapes) due.stays(ofThings().feed(tape), FULL, "text");
    }

    private static void ofForce() {
        due.of(5, "A TEXT is THE LAW: which was.");
        SaidTwice x = ofThings().make();
        int[] laws = {5, 5, 0, 1, 0};
        int was = 0;
        for (int law : laws) {
            due.due("force " + law, x.force(law), was);
            due.due("the law", x.count(3), law);
            was = law;
        }
        due.of(5, "BAD.");
        inAllForEach(BAD, 0, outside(0, 5), "force", 0);
        due.staysForEach(RICH, BAD, 0, outside(0, 2), "force", 0);
        due.staysForEach(EMPTY, BAD, 0, outside(0, 0), "force", 0);
    }

    private static void ofAsks() {
        due.of(6, "2 costs (in WORLD 0, whichever WORLD is told).");
        for (int w = 0; w < 32; w++) {
            for (int who = 0; who < 5; who++) due.due("costs", EMPTY.text("1", "0", "3+who+a+b+c+d+e").make().asks(1, w, who, 2), 3 + who);
        }
        due.of(6, "-5: no such TEXT, WORLD; -7: who, part.");
        inAllForEach(-5, 0, outside(0, 5), "asks", 0, 0, 0, 0);
        due.staysForEach(RICH, -5, 0, outside(0, 2), "asks", 0, 0, 0, 2);
        for (int part = 0; part < 3; part++) {
            inAllForEach(-5, 1, outside(0, 31), "asks", 0, 0, 0, part);
            inAllForEach(-7, 2, outside(0, 4), "asks", 0, 31, 0, part);
        }
        inAllForEach(-7, 3, outside(0, 2), "asks", 0, 31, 4, 0);
        inAll(-5, "asks", 6, 0, 5, 3);
        inAll(-5, "asks", 0, 32, 5, 3);
        due.stays(WHOLE, 1, "asks", 5, 31, 4, 0);
        due.stays(WHOLE, 0, "asks", 5, 0, 0, 0);
    }

    private static void ofMeans() {
        due.of(7, "NO: none such.");
        inAllForEach(NO, 0, outside(0, 5), "means", 0, 0);
        due.staysForEach(RICH, NO, 0, outside(0, 2), "means", 0, 1);
        inAllForEach(NO, 1, outside(0, 1), "means", 0, 0);
        due.of(7, "WORLDS (bits) in which ONCE (part 0), TWICE (1) of a TEXT is so (who 0).");
        Scene edges = EMPTY.text("a*b*c*d*e", "a+b+c+d+e=0", "1").text("0", "1", "1").text("who=0", "who", "1").with("speaker", EARLY, 0);
        due.stays(edges, WORLD31, "means", 1, 0);
        due.stays(edges, 1, "means", 1, 1);
        due.stays(edges, 0, "means", 2, 0);
        due.stays(edges, ALL, "means", 2, 1);
        due.stays(edges, ALL, "means", 3, 0);
        due.stays(edges, 0, "means", 3, 1);
    }

    private static void ofPairs() {
        due.of(8, "TEXTS (bits) of which in each WORLD just one, ONCE or TWICE, is so, said by who (0 .. 4).");
        due.stays(EMPTY, 1, "pairs", 0);
        due.stays(EMPTY, 1, "pairs", 4);
        due.stays(WHOLE, 63, "pairs", 0);
        Scene edges = EMPTY.text("a", "not a or a*b*c*d*e", "1").text("a", "not a and a+b+c+d+e", "1").text("who=4", "not who=4", "1").text("who", "0", "1");
        due.stays(edges, 0b01001, "pairs", 0);
        due.stays(edges, 0b11001, "pairs", 4);
        due.of(8, "BAD.");
        inAllForEach(BAD, 0, outside(0, 4), "pairs", 0);
    }

    private static void ofSpeaker() {
        due.of(9, "A SPEAKER (KIND, MORE): its number. BAD; FULL.");
        for (int kind = 0; kind < 6; kind++) {
            for (int more = 0; more < 10; more++) {
                Scene one = EMPTY.with("speaker", kind, more);
                due.due("the first", EMPTY.make().speaker(kind, more), 0);
                due.due("its kind", one.make().told(0, 0), kind);
                due.due("its more", one.make().told(0, 1), more);
                due.stays(WHOLE, FULL, "speaker", kind, more);
            }
        }
        inAllForEach(BAD, 0, outside(0, 5), "speaker", 0, 0);
        inAllForEach(BAD, 1, outside(0, 9), "speaker", 0, 0);
        Scene four = RICH.with("speaker", 0, 0).with("speaker", 0, 0);
        due.due("the fifth", four.make().speaker(5, 9), 4);
        due.stays(four.with("speaker", 5, 9), FULL, "speaker", 0, 0);
        due.due("room again", four.with("speaker", 5, 9).with("back").make().speaker(4, 4), 2);
    }

    private static void ofTurn() {
        due.of(10, "-5: no such SPEAKER; -7: KIND, MORE.");
        inAllForEach(-5, 0, outside(0, 4), "turn", 0, 0, 0);
        due.staysForEach(RICH, -5, 0, outside(0, 1), "turn", 0, 9, 9);
        due.stays(EMPTY, -5, "turn", 0, 0, 0);
        due.stays(RICH, -5, "turn", 2, 6, 10);
        due.staysForEach(RICH, -7, 1, outside(0, 5), "turn", 1, 0, 0);
        due.staysForEach(RICH, -7, 2, outside(0, 9), "turn", 1, 0, 0);
        due.staysForEach(WHOLE, -7, 1, outside(0, 5), "turn", 4, 0, 0);
        due.stays(RICH.with("speaker", 0, 0).with("back"), -5, "turn", 2, 0, 0);
        due.of(10, "A SPEAKER becomes one of a KIND with MORE: the KIND that it was.");
        due.due("the last", WHOLE.make().turn(4, 0, 0), MAD);
        due.due("to what it is", RICH.with("turn", 1, HIDER, 3).seen().equals(RICH.seen()) ? 1 : 0, 1);
        due.due("more alone", RICH.with("turn", 1, HIDER, 9).make().told(1, 1), 9);
        due.due("kind alone", RICH.with("turn", 1, SPEAKER, 0).make().told(1, 0), SPEAKER);
    }

    private static void ofTold() {
        due.of(11, "Of a SPEAKER what 0 KIND, 1 MORE, 2 1 for a HIDER, else 0. -5: no such SPEAKER; -7: what.");
        for (int kind = 0; kind < 6; kind++) due.stays(EMPTY.with("speaker", kind, 9), kind == HIDER ? 1 : 0, "told", 0, 2);
        due.stays(WHOLE, 9, "told", 4, 1);
        due.stays(EMPTY, -5, "told", 0, 0);
        inAllForEach(-5, 0, outside(0, 4), "told", 0, 0);
        due.staysForEach(RICH, -5, 0, outside(0, 1), "told", 0, 3);
        due.staysForEach(RICH, -7, 1, outside(0, 2), "told", 1, 0);
        due.stays(RICH.with("speaker", 0, 0).with("back"), -5, "told", 2, 0);
    }

    private static void ofSay() {
        due.of(12, "A SAYING (TURNED 1, or 0): its number.");
        Scene eleven = WHOLE.with("unsay");
        due.due("the twelfth", eleven.make().say(4, 5, 1), 11);
        due.due("the first", ofThings().make().say(0, 0, 0), 0);
        due.of(12, "-5: no such SPEAKER, TEXT; -7: turned; FULL.");
        inAllForEach(-5, 0, outside(0, 4), "say", 0, 0, 0);
        inAllForEach(-5, 1, outside(0, 5), "say", 0, 0, 0);
        due.staysForEach(RICH, -5, 0, outside(0, 1), "say", 0, 0, 2);
        due.staysForEach(RICH, -5, 1, outside(0, 2), "say", 0, 0, 2);
        due.staysForEach(RICH, -7, 2, outside(0, 1), "say", 0, 0, 0);
        due.staysForEach(WHOLE, -7, 2, outside(0, 1), "say", 0, 0, 0);
        due.stays(WHOLE, FULL, "say", 0, 0, 0);
        due.stays(WHOLE, FULL, "say", 4, 5, 1);
        due.stays(EMPTY, -5, "say", 0, 0, 0);
    }

    private static void ofUnsay() {
        due.of(13, "The last SAYING is none any more: how many there are. STATE: there is none.");
        SaidTwice x = WHOLE.make();
        for (int k = 11; k >= 0; k--) {
            due.due("unsay", x.unsay(), k);
            due.due("the last", x.said(k, 0), -5);
        }
        due.due("none is left", x.unsay(), STATE);
        due.due("room again", x.say(0, 0, 0), 0);
        due.stays(EMPTY, STATE, "unsay");
        due.stays(LAWLESS, STATE, "unsay");
        due.due("what was said is forgotten", TORN.with("unsay").with("unsay").seen().equals(EMPTY.fair("a").with("speaker", EARLY, 0).seen()) ? 1 : 0, 1);
    }

    private static void ofSaid() {
        due.of(14, "-5: no such SAYING; -7: what.");
        inAllForEach(-5, 0, outside(0, 11), "said", 0, 0);
        due.staysForEach(RICH, -5, 0, outside(0, 1), "said", 0, 3);
        due.stays(EMPTY, -5, "said", 0, 0);
        due.stays(RICH.with("unsay"), -5, "said", 1, 0);
        due.staysForEach(RICH, -7, 1, outside(0, 2), "said", 1, 0);
        due.of(14, "Of a SAYING what 0 the SPEAKER, 1 the TEXT, 2 TURNED (1, 0).");
        Scene last = WHOLE.with("unsay").with("say", 4, 5, 1);
        due.stays(last, 4, "said", 11, 0);
        due.stays(last, 5, "said", 11, 1);
        due.stays(last, 1, "said", 11, 2);
        due.stays(last, 0, "said", 10, 0);
        due.stays(last, 1, "said", 10, 1);
        due.stays(last, 0, "said", 10, 2);
    }

    private static void ofWorlds() {
        due.of(15, "WORLDS (bits) that FIT all SAYINGS.");
        due.stays(EMPTY, ALL, "worlds");
        due.stays(WHOLE, WORLD31, "worlds");
        due.stays(TORN, 0, "worlds");
        due.stays(LAWLESS, 0, "worlds");
        due.stays(LAWLESS.with("say", 0, 0, 0), 0, "worlds");
        Scene none = ofThings();
        for (int t = 1; t < 6; t++) none = none.with("say", 0, t, 1);
        due.stays(none, 1, "worlds");
    }

    private static void ofBehind() {
        due.of(16, "1 THINGS (bits) that are so in all, 2 that are so in none (0 both: there are no such WORLDS), 3 the least (-1: none).");
        int[][] torn = {{32, 0, 0, 0}, {16, 1, 0, 1}, {0, 0, 0, -1}};
        int[][] whole = {{32, 0, 0, 0}, {16, 1, 0, 1}, {8, 3, 0, 3}, {4, 7, 0, 7}, {2, 15, 0, 15}, {1, 31, 0, 31}, {1, 31, 0, 31}};
        for (int what = 0; what < 4; what++) {
            for (int n = 0; n < 3; n++) due.stays(TORN, torn[n][what], "behind", n, what);
            for (int n = 0; n < 7; n++) due.stays(WHOLE, whole[n][what], "behind", n, what);
            due.stays(WHOLE, whole[6][what], "behind", 12, what);
            due.stays(LAWLESS, torn[2][what], "behind", 0, what);
        }
        Scene none = ofThings();
        for (int t = 1; t < 6; t++) none = none.with("say", 0, t, 1);
        int[] world0 = {1, 0, 31, 0};
        for (int what = 0; what < 4; what++) due.stays(none, world0[what], "behind", 5, what);
        due.of(16, "-5: n is none of 0 .. how many there are; -7: what.");
        due.staysForEach(EMPTY, -5, 0, outside(0, 0), "behind", 0, 0);
        due.staysForEach(RICH, -5, 0, outside(0, 2), "behind", 0, 4);
        due.staysForEach(WHOLE, -5, 0, outside(0, 12), "behind", 0, 0);
        inAllForEach(-7, 1, outside(0, 3), "behind", 0, 0);
        due.stays(RICH, -7, "behind", 2, 4);
    }

    private static void ofCannot() {
        due.of(17, "-1: there is none.");
        due.stays(EMPTY, -1, "cannot");
        due.stays(WHOLE, -1, "cannot");
        due.stays(TORN, 1, "cannot");
        due.stays(TORN.with("unsay"), -1, "cannot");
        due.stays(WHOLE.with("unsay").with("say", 0, 5, 1), 11, "cannot");
        due.stays(WHOLE.with("turn", 0, LATE, 0).with("force", 1), 0, "cannot");
        due.of(17, "(If ONCE of THE LAW is so nowhere, SAYING 0, if there is any.)");
        due.stays(LAWLESS, -1, "cannot");
        due.stays(LAWLESS.with("say", 0, 0, 0), 0, "cannot");
        due.stays(LAWLESS.with("say", 0, 0, 0).with("say", 0, 0, 1), 0, "cannot");
    }

    private static void ofLies() {
        due.of(18, "If no WORLD FITS all: SAYINGS (bits) without each of which alone any does; else 0.");
        due.stays(EMPTY, 0, "lies");
        due.stays(WHOLE, 0, "lies");
        due.stays(TORN, 0b11, "lies");
        due.stays(TORN.with("unsay"), 0, "lies");
        due.stays(TORN.with("say", 0, 1, 1), 0b001, "lies");
        due.stays(TORN.with("say", 0, 1, 1).with("say", 0, 1, 0), 0, "lies");
        due.stays(TORN.with("say", 0, 1, 1).with("say", 0, 1, 0).with("unsay"), 0b001, "lies");
        due.stays(WHOLE.with("unsay").with("say", 0, 4, 1), 1 << 11, "lies");
        due.stays(LAWLESS.with("say", 0, 0, 0), 0, "lies");
        due.stays(EMPTY.fair("a").with("speaker", LATE, 0).with("say", 0, 1, 0).with("say", 0, 0, 0), 0b10, "lies");
    }

    private static void ofLeast() {
        due.of(19, "how many (what 0), which (1); -1: none FITS without all.");
        due.stays(LAWLESS, -1, "least", 0);
        due.stays(LAWLESS, -1, "least", 1);
        due.stays(LAWLESS.with("say", 0, 0, 0), -1, "least", 0);
        due.stays(LAWLESS.with("say", 0, 0, 0), -1, "least", 1);
        due.stays(EMPTY, 0, "least", 0);
        due.stays(EMPTY, 0, "least", 1);
        due.stays(WHOLE, 0, "least", 1);
        due.stays(TORN, 1, "least", 0);
        due.stays(TORN, 0b01, "least", 1);
        due.stays(TORN.with("unsay"), 0, "least", 1);
        due.stays(WHOLE.with("turn", 0, MAD, 0), 12, "least", 0);
        due.stays(WHOLE.with("turn", 0, MAD, 0), 0xFFF, "least", 1);
        due.stays(WHOLE.with("unsay").with("say", 0, 4, 1), 1 << 11, "least", 1);
        Scene turnedFirst = EMPTY.fair("a").with("speaker", EARLY, 0).with("say", 0, 1, 1).with("say", 0, 1, 0);
        due.stays(turnedFirst, 0b01, "least", 1);
        due.stays(turnedFirst.with("say", 0, 1, 0), 0b001, "least", 1);
        due.stays(turnedFirst.with("say", 0, 1, 1), 0b010, "least", 1);
        due.stays(EMPTY.text("a+b+c+d+e=0", "1", "1").with("force", 1).with("speaker", MAD, 0).with("say", 0, 0, 0), 1, "least", 0);
        due.of(19, "BAD.");
        inAllForEach(BAD, 0, outside(0, 1), "least", 0);
    }

    private static void ofMad() {
        due.of(20, "how many (what 0), who (1); -1: none.");
        Scene same = EMPTY.text("a", "a", "1");
        for (int s = 0; s < 5; s++) same = same.with("speaker", s % 4, s);
        due.stays(same, 0, "mad", 0);
        due.stays(same, 0, "mad", 1);
        Scene last = same.with("say", 4, 1, 0);
        due.stays(last, 1, "mad", 0);
        due.stays(last, 0b10000, "mad", 1);
        Scene all = last;
        for (int s = 0; s < 4; s++) all = all.with("say", s, 1, 1);
        due.stays(all, 5, "mad", 0);
        due.stays(all, 31, "mad", 1);
        due.stays(all.with("say", 0, 0, 0), -1, "mad", 0);
        due.stays(all.with("say", 0, 0, 0), -1, "mad", 1);
        due.stays(all.with("turn", 2, MAD, 0), 0b11011, "mad", 1);
        Scene either = EMPTY.text("a", "0", "1").text("not a", "0", "1");
        for (int s = 0; s < 5; s++) either = either.with("speaker", EARLY, 0);
        either = either.with("say", 4, 1, 0).with("say", 2, 2, 0);
        due.stays(either, 1, "mad", 0);
        due.stays(either, 0b00100, "mad", 1);
        due.stays(either.with("say", 3, 2, 0), 1, "mad", 0);
        due.stays(either.with("say", 3, 2, 0), 0b10000, "mad", 1);
        due.stays(LAWLESS, -1, "mad", 0);
        due.stays(EMPTY, 0, "mad", 0);
        due.stays(EMPTY, 0, "mad", 1);
        due.of(20, "BAD.");
        inAllForEach(BAD, 0, outside(0, 1), "mad", 0);
    }

    private static void habitIs(Scene scene, int s, int w, long above, long below) {
        due.stays(scene, above, "habit", s, w, 0);
        due.stays(scene, below, "habit", s, w, 1);
    }

    private static void ofHabit() {
        due.of(21, "how many are there of which the first said is (part 0 above), of all of them (1 below the line), in lowest terms.");
        Scene said = EMPTY.text("a", "b", "1").with("speaker", SPEAKER, 0);
        for (int k = 0; k < 12; k++) said = said.with("say", 0, 1, k < 8 ? 0 : 1);
        habitIs(said, 0, 1, 2, 3);
        habitIs(said, 0, 2, 1, 3);
        habitIs(WHOLE, 0, 31, 1, 1);
        habitIs(WHOLE, 0, 0, 0, 1);
        habitIs(TORN, 0, 1, 1, 2);
        habitIs(said.with("unsay"), 0, 1, 8, 11);
        habitIs(said.with("unsay"), 0, 30, 3, 11);
        due.of(21, "NO: none such; there is none.");
        habitIs(said, 0, 0, NO, NO);
        habitIs(said, 0, 31, NO, NO);
        habitIs(said.with("speaker", EARLY, 0), 1, 1, NO, NO);
        due.staysForEach(TORN, NO, 0, outside(0, 0), "habit", 0, 1, 0);
        inAllForEach(NO, 0, outside(0, 4), "habit", 0, 1, 0);
        inAllForEach(NO, 1, outside(0, 31), "habit", 0, 0, 0);
        inAllForEach(NO, 2, outside(0, 1), "habit", 0, 31, 0);
    }

    private static void ofKinds() {
        due.of(22, "KINDS (bits 0 .. 5) by which, were a SPEAKER of it, MORE as it is, all its SAYINGS FIT a WORLD (THE LAW does not matter).");
        due.stays(EMPTY.with("speaker", MAD, 9), 63, "kinds", 0, 0);
        due.stays(LAWLESS, 63, "kinds", 0, 31);
        due.stays(LAWLESS.with("say", 0, 0, 0), 0b000011, "kinds", 0, 0);
        due.stays(LAWLESS.with("say", 0, 0, 1), 0b101101, "kinds", 0, 31);
        Scene neither = EMPTY.text("0", "0", "1").with("speaker", EARLY, 0);
        due.stays(neither.with("say", 0, 1, 0), 0b110000, "kinds", 0, 5);
        due.stays(neither.with("turn", 0, EARLY, 1).with("say", 0, 1, 0), 0b010000, "kinds", 0, 5);
        due.stays(TORN, 0b000001, "kinds", 0, 1);
        due.stays(TORN.with("turn", 0, HIDER, 9), 0b000001, "kinds", 0, 1);
        due.of(22, "-5: no such SPEAKER, WORLD.");
        inAllForEach(-5, 0, outside(0, 4), "kinds", 0, 0);
        due.staysForEach(TORN, -5, 0, outside(0, 0), "kinds", 0, 0);
        due.staysForEach(WHOLE, -5, 1, outside(0, 31), "kinds", 4, 0);
        due.stays(EMPTY, -5, "kinds", 0, 0);
    }

    private static void ofAsk() {
        due.of(23, "-1: no SPEAKERS (an answer, asked behind BAD). BAD.");
        for (int what = 0; what < 3; what++) due.stays(EMPTY, -1, "ask", what);
        for (int what = 0; what < 3; what++) due.stays(EMPTY.fair("a"), -1, "ask", what);
        inAllForEach(BAD, 0, outside(0, 2), "ask", 0);
        due.of(23, "what 0 10 times the SPEAKER, and the TEXT, 1 its WORST, 2 what it costs");
        Scene last = EMPTY;
        for (int t = 1; t < 5; t++) last = last.fair("1");
        last = last.text("e and (d or not d)", "not e", "99-9*who");
        for (int s = 0; s < 5; s++) last = last.with("speaker", s < 4 ? EARLY : LATE, 0);
        due.stays(last, 45, "ask", 0);
        due.stays(last, 16, "ask", 1);
        due.stays(last, 63, "ask", 2);
        due.stays(TORN, 0, "ask", 0);
        due.stays(TORN, 0, "ask", 1);
        due.stays(LAWLESS, 0, "ask", 1);
        due.stays(WHOLE, 40, "ask", 0);
        due.stays(WHOLE, 0, "ask", 1);
        due.stays(WHOLE.with("turn", 4, SPEAKER, 0), 1, "ask", 1);
        due.stays(WHOLE.with("turn", 4, SPEAKER, 0), 0, "ask", 0);
    }

    private static void ofTwo() {
        due.of(24, "-1: no SPEAKERS. BAD.");
        due.stays(EMPTY, -1, "two", 0);
        due.stays(EMPTY, -1, "two", 1);
        due.stays(EMPTY.fair("a"), -1, "two", 1);
        inAllForEach(BAD, 0, outside(0, 1), "two", 0);
        due.of(24, "said as told or TURNED, WORST of the BEST QUESTION behind it (as the SAYING behind THE NEXT) is least, the greater of the two, of like ones the first");
        due.stays(TORN, 0, "two", 0);
        due.stays(TORN, 0, "two", 1);
        due.stays(EMPTY.with("speaker", EARLY, 0), 32, "two", 1);
        due.stays(EMPTY.with("speaker", EARLY, 0), 0, "two", 0);
        Scene last = EMPTY.text("who=2 and a", "not(who=2 and a)", "9").with("speaker", EARLY, 0).with("speaker", LATE, 0).with("speaker", EARLY, 0);
        due.stays(last, 0, "two", 0);
        due.stays(last, 16, "two", 1);
        due.stays(last.text("who=2 and b", "not(who=2 and b)", "9"), 21, "two", 0);
        due.stays(last.text("who=1 and b", "not(who=1 and b)", "9"), 12, "two", 0);
        due.stays(last.text("who=1 and b", "not(who=1 and b)", "9"), 8, "two", 1);
        hiderOfTwo();
    }

    /**
     * The hider can say 0, 1 always, and a, a from number MORE on, where a is not so. So if that
     * is the number of the second question, just a, a as the first one leaves nothing.
     */
    private static void hiderOfTwo() {
        for (int more = 0; more < 10; more++) {
            Scene scene = EMPTY.text("a", "a", "1").with("speaker", HIDER, more);
            for (int n = 0; n <= 12; n++) {
                due.stays(scene, n + 1 == more ? 1 : 0, "two", 0);
                due.stays(scene, n < more ? 0 : 16, "two", 1);
                scene = scene.with("say", 0, 0, 1);
            }
        }
    }

    private static void ofParts() {
        due.of(25, "NO: none such.");
        inAllForEach(NO, 0, outside(0, 4), "parts", 0, 0, 0);
        inAllForEach(NO, 1, outside(0, 5), "parts", 0, 0, 0);
        inAllForEach(NO, 2, outside(0, 3), "parts", 0, 0, 0);
        due.staysForEach(RICH, NO, 0, outside(0, 1), "parts", 0, 0, 0);
        due.staysForEach(RICH, NO, 1, outside(0, 2), "parts", 0, 0, 0);
        due.stays(EMPTY, NO, "parts", 0, 0, 0);
        due.of(25, "what 0 as told, 1 TURNED, 2 neither way, 3 both ways.");
        for (int what = 0; what < 4; what++) {
            due.stays(TORN, 0, "parts", 0, 0, what);
            due.stays(LAWLESS, 0, "parts", 0, 0, what);
            due.stays(EMPTY.with("speaker", SPEAKER, 0), what == 2 ? 0 : ALL, "parts", 0, 0, what);
            due.stays(EMPTY.with("speaker", EARLY, 0), what == 0 ? ALL : 0, "parts", 0, 0, what);
            due.stays(EMPTY.with("speaker", MAD, 0), what == 2 ? ALL : 0, "parts", 0, 0, what);
            due.stays(WHOLE, what == 0 ? WORLD31 : 0, "parts", 0, 5, what);
        }
    }

    private static void ofHide() {
        due.of(26, "by which, said, THING x is not SURE of WORLDS that FIT then.");
        due.stays(ofThings(), 0b010101010001, "hide", 0, 31, 0);
        due.stays(ofThings(), 0b000101010101, "hide", 0, 31, 4);
        due.stays(ofThings(), 0b101010100001, "hide", 0, 0, 0);
        due.stays(ofThings(), 0b001010101001, "hide", 0, 0, 4);
        due.stays(TORN, 0b0101, "hide", 0, 1, 0);
        due.stays(TORN, 0b1001, "hide", 0, 0, 0);
        for (int x = 0; x < 5; x++) due.stays(WHOLE, 0, "hide", 0, 31, x);
        for (int x = 0; x < 5; x++) due.stays(WHOLE, 0b101010101000, "hide", 0, 0, x);
        due.stays(EMPTY.with("speaker", MAD, 0), 0, "hide", 0, 0, 0);
        due.stays(EMPTY.text("0", "0", "1").with("speaker", MAD, 0), 0b1100, "hide", 0, 0, 0);
        due.stays(WHOLE.text("0", "0", "1"), 0, "hide", 4, 31, 0);
        due.of(26, "-5: no such SPEAKER, WORLD, THING.");
        inAllForEach(-5, 0, outside(0, 4), "hide", 0, 0, 0);
        inAllForEach(-5, 1, outside(0, 31), "hide", 0, 0, 0);
        inAllForEach(-5, 2, outside(0, 4), "hide", 0, 0, 0);
        due.staysForEach(RICH, -5, 0, outside(0, 1), "hide", 0, 0, 0);
        due.stays(EMPTY, -5, "hide", 0, 0, 0);
    }

    private static void ofSame() {
        due.of(27, "in all WORLDS that FIT THE TALK (what 0), in all there are (1) (1, 0).");
        Scene near = EMPTY.text("a*b*c*d*e", "0", "1").text("0", "0", "1").text("a+b+c+d+e", "0", "1").with("speaker", EARLY, 0);
        for (int what = 0; what < 2; what++) {
            due.stays(near, 1, "same", 0, 0, what);
            due.stays(near, 0, "same", 1, 2, what);
            due.stays(near, 0, "same", 0, 3, what);
            due.stays(near.text("who", "1", "1"), 1, "same", 2, 4, what);
            due.stays(near.with("say", 0, 0, 1), what == 0 ? 1 : 0, "same", 1, 0, what);
            due.stays(near.with("force", 2), what == 0 ? 1 : 0, "same", 0, 2, what);
            due.stays(near.with("force", 3), what == 0 ? 1 : 0, "same", 0, 3, what);
        }
        due.of(27, "-5: no such TEXTS; -7: what.");
        inAllForEach(-5, 0, outside(0, 5), "same", 0, 0, 2);
        inAllForEach(-5, 1, outside(0, 5), "same", 0, 0, 2);
        due.staysForEach(RICH, -5, 0, outside(0, 2), "same", 0, 2, 0);
        due.staysForEach(RICH, -5, 1, outside(0, 2), "same", 2, 0, 1);
        inAllForEach(-7, 2, outside(0, 1), "same", 0, 0, 0);
    }

    private static void ofClaims() {
        due.of(28, "TEXTS (bits) of which ONCE is so in all WORLDS that FIT THE TALK in which that of a TEXT is (who 0).");
        due.stays(EMPTY, 1, "claims", 0);
        due.stays(TORN, 0b11, "claims", 0);
        due.stays(TORN, 0b11, "claims", 1);
        due.stays(LAWLESS, 0b11, "claims", 0);
        due.stays(EMPTY.text("0", "1", "1"), 0b11, "claims", 1);
        due.stays(EMPTY.text("0", "1", "1"), 0b01, "claims", 0);
        due.stays(EMPTY.text("who", "1", "1"), 0b11, "claims", 1);
        due.stays(WHOLE, 63, "claims", 5);
        due.stays(ofThings(), 0b100001, "claims", 5);
        due.of(28, "-5: no such TEXT.");
        inAllForEach(-5, 0, outside(0, 5), "claims", 0);
        due.staysForEach(RICH, -5, 0, outside(0, 2), "claims", 0);
    }

    private static void ofSettle() {
        due.of(29, "how many (what 0), which (1); -1: none do.");
        due.stays(EMPTY, -1, "settle", 0);
        due.stays(EMPTY, -1, "settle", 1);
        due.stays(EMPTY.fair("a").fair("b").fair("c").fair("d"), -1, "settle", 0);
        due.stays(ofThings(), 5, "settle", 0);
        due.stays(ofThings(), 62, "settle", 1);
        for (Scene scene : new Scene[] {TORN, LAWLESS, WHOLE}) {
            due.stays(scene, 0, "settle", 0);
            due.stays(scene, 0, "settle", 1);
        }
        Scene like = EMPTY.text("b*c*d*e", "0", "1").text("c", "0", "1").text("who", "0", "1").text("a and c", "0", "1").text("not a", "0", "1");
        due.stays(like.with("force", 1), 1, "settle", 0);
        due.stays(like.with("force", 1), 0b010000, "settle", 1);
        Scene first = EMPTY.text("b+c+d+e=0", "0", "1").text("a", "0", "1").with("force", 1);
        due.stays(first, 0b100, "settle", 1);
        Scene alike = EMPTY.text("b*c*d*e", "0", "1");
        for (int t = 2; t < 6; t++) alike = alike.text("e", "0", "1");
        due.stays(alike.with("force", 1), -1, "settle", 0);
        due.stays(alike.with("force", 1), -1, "settle", 1);
        due.of(29, "BAD.");
        inAllForEach(BAD, 0, outside(0, 1), "settle", 0);
    }

    private static void ofThrice() {
        due.of(30, "ONCE of just one of three TEXTS is so (who 0; the same TEXT twice is so twice).");
        due.stays(ofThings(), 0, "thrice", 1, 1, 1);
        due.stays(ofThings(), B & ~A, "thrice", 1, 1, 2);
        due.stays(ofThings(), B & ~A, "thrice", 1, 2, 1);
        due.stays(ofThings(), B & ~A, "thrice", 2, 1, 1);
        due.stays(ofThings(), 0, "thrice", 0, 0, 0);
        due.stays(ofThings(), ~C & ~D & ALL, "thrice", 3, 0, 4);
        due.stays(ofThings(), E & ~A & ~B | A & ~B & ~E | B & ~A & ~E, "thrice", 5, 1, 2);
        due.stays(EMPTY.text("0", "1", "1"), ALL, "thrice", 1, 0, 1);
        due.stays(TORN, 0, "thrice", 0, 1, 1);
        due.of(30, "NO: no such TEXTS.");
        for (int place = 0; place < 3; place++) {
            inAllForEach(NO, place, outside(0, 5), "thrice", 0, 0, 0);
            due.staysForEach(RICH, NO, place, outside(0, 2), "thrice", 2, 2, 2);
        }
    }

    private static void ofMany() {
        due.of(31, "2 and k (k 0 .. 5): in how many just k are; -1: none FITS. BAD.");
        int[] all = {0, 5, 1, 5, 10, 10, 5, 1};
        int[] last = {5, 5, 0, 0, 0, 0, 0, 1};
        int[] first = {0, 0, 1, 0, 0, 0, 0, 0};
        Scene none = ofThings();
        for (int t = 1; t < 6; t++) none = none.with("say", 0, t, 1);
        for (int what = 0; what < 8; what++) {
            due.stays(EMPTY, all[what], "many", what);
            due.stays(WHOLE, last[what], "many", what);
            due.stays(none, first[what], "many", what);
            due.stays(TORN, -1, "many", what);
            due.stays(LAWLESS, -1, "many", what);
        }
        inAllForEach(BAD, 0, outside(0, 7), "many", 0);
    }

    private static void ofJudge() {
        due.of(32, "the first row that is none such, or doesn't FIT a WORLD (THE LAW does not matter there); -1: none.");
        Scene judged = LAWLESS.with("turn", 0, TURNING, 0);
        due.stays(judged.with("sheet", 3, 1, 0), -1, "judge", 3, 31);
        for (int sort = 0; sort < 3; sort++) {
            due.stays(judged.row(0, sort, 0, 0, 1), -1, "judge", 0, 0);
            due.stays(judged.row(0, sort, 0, 0, 0), 0, "judge", 0, 0);
            due.stays(judged.row(0, sort, 0, 0, 1, 0, 0, 0), -1, "judge", 0, 31);
            due.stays(judged.row(0, sort, 0, 0, 1, 0, 0, 1, 0, 0, 0), 1, "judge", 0, 31);
            due.stays(judged.row(0, sort, 0, 0, 1, 1, 0, 0), 1, "judge", 0, 0);
            due.stays(judged.row(0, sort, 0, 0, 1, -1, 0, 0), 1, "judge", 0, 0);
            due.stays(judged.row(0, sort, 0, 0, 1, 0, 2, 0), 1, "judge", 0, 0);
            due.stays(judged.row(0, sort, 0, 0, 1, 0, -1, 0), 1, "judge", 0, 0);
            due.stays(judged.row(0, sort, 0, 0, 1, 0, 0, 2), 1, "judge", 0, 0);
            due.stays(judged.row(0, sort, 0, 0, 1, 0, 0, -1), 1, "judge", 0, 0);
        }
        Scene mad = EMPTY.text("0", "0", "1").with("speaker", MAD, 0);
        due.stays(mad.row(0, 2, 0, 1, 1), -1, "judge", 0, 0);
        for (int number : outside(0, 1)) due.stays(mad.row(0, 2, 0, 1, 0, 0, 1, number), 1, "judge", 0, 0);
        for (int number : outside(0, 1)) due.stays(mad.row(0, 2, 0, 1, 0, 0, number, 0), 1, "judge", 0, 0);
        for (int number : outside(0, 0)) due.stays(mad.row(0, 2, 0, 1, 0, number, 1, 0), 1, "judge", 0, 0);
        due.stays(judged.row(0, 2, MAX, 0, 0), 0, "judge", 0, 0);
        due.stays(judged.row(0, 2, 0, MIN, 0), 0, "judge", 0, 0);
        due.stays(EMPTY.row(0, 0, 0, 0, 0), 0, "judge", 0, 0);
        due.stays(EMPTY.with("sheet", 0, 0, 0), -1, "judge", 0, 0);
        due.of(32, "BAD: SHEET; -11; BAD: its size isn't by threes; -5: no such WORLD.");
        inAllForEach(BAD, 0, outside(0, 3), "judge", 0, 32);
        for (int s = 0; s < 4; s++) due.stays(EMPTY, -11, "judge", s, 32);
        for (int n = 0; n <= 40; n++) due.stays(LAWLESS.with("sheet", 1, n % 3, n), n % 3 == 0 ? -5 : BAD, "judge", 1, 32);
        due.staysForEach(EMPTY.with("sheet", 1, 0, 3), -5, 1, outside(0, 31), "judge", 1, 0);
    }

    private static void ofFilm() {
        due.of(33, "A SHEET truly becomes THE TALK, three ints each: how many SAYINGS. BAD.");
        for (int s = 0; s < 4; s++) {
            due.due("nothing said", EMPTY.make().film(s), 0);
            due.stays(EMPTY.with("film", s), -12, "cell", s, 0, 0);
            due.stays(EMPTY.with("film", s), 0, "sayingsBy", s, 2, 0, 0);
            due.due("twelve", WHOLE.make().film(s), 12);
            due.stays(WHOLE.with("film", s), -12, "cell", s, 36, 0);
            due.stays(WHOLE.with("film", s), 0, "copy", s, 36, s, 36, 0);
            due.stays(WHOLE.with("film", s), -13, "sayingsBy", s, 0, 0, 0);
            due.stays(WHOLE.with("film", s), -1, "judge", s, 31);
            due.stays(TORN.with("film", s), 1, "judge", s, 1);
            Scene unlike = TORN.with("turn", 0, TURNING, 9).with("speaker", MAD, 1).with("say", 1, 0, 1);
            Scene told = unlike.with("film", s).with("unsay").with("unsay").with("unsay").with("sayingsBy", s, 2, 0, 3);
            due.due("a talk by its film", told.seen().equals(unlike.with("film", s).seen()) ? 1 : 0, 1);
        }
        inAllForEach(BAD, 0, outside(0, 3), "film", 0);
    }

    private static void ofDrawn() {
        due.of(34, "-1: no WORLD FITS THE TALK. BAD.");
        for (int seed : new int[] {0, 1, 99999}) {
            due.stays(TORN, -1, "drawn", seed);
            due.stays(LAWLESS, -1, "drawn", seed);
            due.stays(WHOLE, 0, "drawn", seed);
            due.stays(EMPTY, 0, "drawn", seed);
            due.stays(ofThings(), 5, "drawn", seed);
        }
        inAllForEach(BAD, 0, outside(0, 99999), "drawn", 0);
    }

    private static long commonDivisor(long one, long other) {
        return other == 0 ? one : commonDivisor(other, one % other);
    }

    private static void ofMean() {
        due.of(35, "The mean of that over so many (1 .. 10) seeds, SEED and each 1 more (above 99999, too): part 0 above, 1 below the line, in lowest terms.");
        SaidTwice x = EMPTY.text("c*d*e", "0", "1").text("b", "a", "0").text("a", "not a", "5").with("force", 1).with("speaker", HIDER, 0).make();
        for (int seed : new int[] {0, 1, 44480, 44487, 99989, 99990, 99991, 99998, 99999}) {
            for (int seeds = 1; seeds <= 10; seeds++) {
                long sum = 0;
                for (int i = 0; i < seeds; i++) sum += TermsEdgeTest.askedOfFour(seed + i);
                long by = commonDivisor(sum, seeds);
                due.due(seeds + " from " + seed, x.mean(seed, seeds, 0), sum / by);
                due.due(seeds + " from " + seed, x.mean(seed, seeds, 1), seeds / by);
            }
        }
        due.stays(EMPTY, 0, "mean", 99999, 10, 0);
        due.stays(EMPTY, 1, "mean", 99999, 10, 1);
        due.of(35, "NO: none such; no WORLD FITS THE TALK.");
        for (Scene scene : new Scene[] {TORN, LAWLESS}) {
            due.stays(scene, NO, "mean", 0, 1, 0);
            due.stays(scene, NO, "mean", 0, 1, 1);
        }
        inAllForEach(NO, 0, outside(0, 99999), "mean", 0, 1, 0);
        inAllForEach(NO, 1, outside(1, 10), "mean", 0, 1, 0);
        inAllForEach(NO, 1, outside(1, 10), "mean", 0, 1, 1);
        inAllForEach(NO, 2, outside(0, 1), "mean", 0, 1, 0);
    }

    private static void ofImage() {
        due.of(36, "AN IMAGE is kept: how many SAYINGS.");
        due.due("nothing said", EMPTY.make().image(), 0);
        due.due("twelve", WHOLE.make().image(), 12);
        due.due("two", RICH.make().image(), 2);
        due.due("the last one counts", RICH.with("image").make().back(), 2);
        due.due("no one but the last", RICH.with("unsay").with("unsay").with("image").make().back(), 0);
        due.of(37, "STATE: there is none.");
        due.stays(EMPTY, STATE, "back");
        due.stays(TORN, STATE, "back");
        due.stays(LAWLESS, STATE, "back");
        due.of(37, "All that it keeps is as in THE IMAGE, SPEAKERS that came since are none: how many SAYINGS there are.");
        due.due("one", RICH.make().back(), 1);
        due.due("twice", RICH.with("back").make().back(), 1);
        due.due("the second changes nothing", RICH.with("back").with("back").seen().equals(RICH.with("back").seen()) ? 1 : 0, 1);
        Scene came = RICH.with("speaker", MAD, 2).with("speaker", LATE, 3).with("speaker", EARLY, 4).with("say", 4, 2, 1);
        due.due("came since", came.with("back").seen().equals(RICH.with("back").seen()) ? 1 : 0, 1);
        Scene nobody = EMPTY.with("image").with("speaker", MAD, 2).with("say", 0, 0, 0);
        due.due("nobody", nobody.make().back(), 0);
        due.due("nobody", nobody.with("back").seen().equals(EMPTY.with("image").seen()) ? 1 : 0, 1);
    }

    private static Scene allOnes(Scene scene, int s, int sort) {
        int[] ones = new int[40];
        Arrays.fill(ones, 1);
        return scene.row(s, sort, ones);
    }

    private static void ofSheet() {
        due.of(38, "A SHEET becomes a row of n of a sort, all 0, or missing (sort -1: n does not matter): 1.");
        for (int n : new int[] {0, 1, 39, 40}) {
            for (int sort = 0; sort < 3; sort++) {
                Scene made = RICH.with("sheet", 3, sort, n);
                due.due("sheet", RICH.make().sheet(3, sort, n), 1);
                due.stays(made, -12, "cell", 3, n, 0);
                if (n > 0) due.stays(made, 1, "cell", 3, n - 1, 0);
                for (int was = 0; was < 3; was++) {
                    Scene full = allOnes(RICH, 3, was);
                    due.due("all 0", full.with("sheet", 3, sort, n).seen().equals(made.seen()) ? 1 : 0, 1);
                    due.due("all 0", full.with("sheet", 3, -1, 0).with("sheet", 3, sort, n).seen().equals(made.seen()) ? 1 : 0, 1);
                }
            }
        }
        Scene ones = RICH;
        for (int s = 0; s < 4; s++) ones = allOnes(ones, s, 2);
        for (int s = 0; s < 4; s++) {
            Scene made = ones.with("sheet", s, 2, 40);
            for (int i = 0; i < 40; i++) made = made.with("cell", s, i, 1);
            due.due("just this one", made.seen().equals(ones.seen()) ? 1 : 0, 1);
        }
        for (int n : new int[] {0, 41, -1, MIN, MAX}) {
            due.due("missing", WHOLE.make().sheet(0, -1, n), 1);
            due.stays(WHOLE.with("sheet", 0, -1, n), -11, "cell", 0, 0, 0);
            due.stays(EMPTY, 1, "sheet", 0, -1, n);
        }
        due.of(38, "BAD: SHEET, sort, n above 40; -14.");
        inAllForEach(BAD, 0, outside(0, 3), "sheet", 0, 0, -1);
        inAllForEach(BAD, 0, outside(0, 3), "sheet", 0, -1, 1);
        inAllForEach(BAD, 1, outside(-1, 2), "sheet", 3, 0, -1);
        for (int sort = 0; sort < 3; sort++) {
            inAllForEach(BAD, 2, new int[] {41, 42, MAX}, "sheet", 3, sort, 0);
            inAllForEach(-14, 2, new int[] {-1, -2, MIN}, "sheet", 3, sort, 0);
        }
    }

    private static void ofCell() {
        due.of(39, "Number i of a SHEET becomes v (of bytes, shorts its lowest 8, 16 bits): 1.");
        int[][] lowest = {{256, -256, 512, 65536, MIN}, {65536, -65536, 131072, MIN}, {}};
        int[][] more = {{128, 255, -128, 65535, MAX}, {256, -256, 32768, 65535, MAX}, {256, -256, 65536, -65536, MIN, MAX}};
        Scene two = EMPTY.fair("a").with("speaker", SPEAKER, 0).with("speaker", SPEAKER, 0);
        for (int sort = 0; sort < 3; sort++) {
            for (int place = 0; place < 3; place++) {
                Scene zeros = two.with("sheet", 1, sort, 3).with("sheet", 2, sort, 3);
                for (int v : lowest[sort]) {
                    due.stays(zeros, 1, "cell", 1, place, v);
                    due.stays(zeros.with("cell", 1, place, v + 1), 1, "cell", 1, place, 1);
                }
                for (int v : more[sort]) due.stays(zeros.with("cell", 1, place, v), 0, "sayingsBy", 1, sort, 0, 1);
            }
        }
        due.of(39, "BAD: SHEET; -11; -12.");
        inAllForEach(BAD, 0, outside(0, 3), "cell", 0, -1, 1);
        for (int s = 0; s < 4; s++) due.staysForEach(EMPTY, -11, 1, outside(0, 39), "cell", s, 0, 1);
        due.staysForEach(RICH, -12, 1, outside(0, 8), "cell", 0, 0, 1);
        due.staysForEach(RICH, -12, 1, outside(0, 6), "cell", 1, 0, 1);
        due.staysForEach(RICH, -12, 1, new int[] {0, -1, 1, MIN, MAX}, "cell", 2, 0, 1);
        due.staysForEach(WHOLE, -12, 1, outside(0, 39), "cell", 3, 0, 1);
    }

    private static void ofCopy() {
        due.of(40, "n numbers of a SHEET, from i on, come to another one's (or its own) place j (as they were): n.");
        Scene two = RICH.row(2, 0, 0, 0, 0, 0, 0, 0, 0, 0, 0);
        due.due("all", two.make().copy(0, 0, 2, 0, 9), 9);
        due.due("all", two.with("copy", 0, 0, 2, 0, 9).seen().equals(RICH.row(2, 0, 0, 1, 1, 1, 2, 0, 0, 0, 1).seen()) ? 1 : 0, 1);
        due.due("the last", two.make().copy(0, 8, 2, 8, 1), 1);
        due.due("the last", two.with("copy", 0, 8, 2, 8, 1).seen().equals(RICH.row(2, 0, 0, 0, 0, 0, 0, 0, 0, 0, 1).seen()) ? 1 : 0, 1);
        due.due("upwards", two.with("copy", 0, 0, 0, 1, 8).seen().equals(two.row(0, 0, 0, 0, 1, 1, 1, 2, 0, 0, 0).seen()) ? 1 : 0, 1);
        due.due("downwards", two.with("copy", 0, 1, 0, 0, 8).seen().equals(two.row(0, 0, 1, 1, 1, 2, 0, 0, 0, 1, 1).seen()) ? 1 : 0, 1);
        due.stays(WHOLE, 40, "copy", 3, 0, 3, 0, 40);
        due.stays(RICH, 0, "copy", 2, 0, 2, 0, 0);
        due.of(40, "BAD: SHEETS; -11; -13: unlike sorts;");
        inAllForEach(BAD, 0, outside(0, 3), "copy", 0, 0, 3, 0, -1);
        inAllForEach(BAD, 2, outside(0, 3), "copy", 3, 0, 0, 0, -1);
        due.stays(RICH, -11, "copy", 3, 0, 0, 0, -1);
        due.stays(RICH, -11, "copy", 0, 0, 3, 0, -1);
        due.stays(RICH, -11, "copy", 3, 0, 3, 0, 0);
        for (int s = 0; s < 3; s++) {
            for (int other = 0; other < 3; other++) due.stays(RICH, s == other ? -12 : -13, "copy", s, 0, other, 0, -1);
        }
        due.of(40, "-12 (n below 0, too; with n 0, too, if i or j is above how many there are).");
        due.staysForEach(two, -12, 4, new int[] {-1, MIN, 10, MAX}, "copy", 0, 0, 2, 0, 0);
        for (int n = 0; n <= 9; n++) {
            due.staysForEach(two, -12, 1, new int[] {-1, 10 - n, 10, MIN, MAX}, "copy", 0, 0, 2, 0, n);
            due.staysForEach(two, -12, 3, new int[] {-1, 10 - n, 10, MIN, MAX}, "copy", 0, 0, 2, 0, n);
        }
        due.stays(two, 0, "copy", 0, 9, 2, 9, 0);
        due.stays(two, 0, "copy", 0, 0, 2, 9, 0);
        due.stays(two, -12, "copy", 0, MAX, 2, 0, MAX);
        due.stays(two, -12, "copy", 0, 0, 2, 0, MAX);
        due.stays(two, -12, "copy", 0, MIN, 2, MIN, MIN);
        due.stays(RICH, -12, "copy", 2, 0, 2, 0, 1);
        due.stays(RICH, -12, "copy", 2, 1, 2, 0, 0);
    }

    private static void ofSayingsBy() {
        due.of(41, "n of them (0 .. 12): how many came (others are left out).");
        Scene rows = RICH.with("sheet", 3, 2, 36).with("unsay").with("unsay");
        due.stays(rows, 0, "sayingsBy", 3, 2, 0, 0);
        due.due("twelve", rows.make().sayingsBy(3, 2, 0, 12), 12);
        due.due("twelve", rows.with("sayingsBy", 3, 2, 0, 12).make().count(1), 12);
        due.due("room for ten", rows.with("say", 0, 0, 0).with("say", 0, 0, 0).make().sayingsBy(3, 2, 0, 12), 10);
        due.stays(WHOLE, 0, "sayingsBy", 0, 0, 0, 12);
        due.due("the last three", rows.make().sayingsBy(3, 2, 33, 1), 1);
        Scene some = EMPTY.with("speaker", EARLY, 0).row(0, 1, 0, 0, 2, 1, 0, 0, -1, 0, 0, 0, 1, 0, 0, -1, 0, 0, 0, -1, 0, 0, 1);
        due.due("others are left out", some.make().sayingsBy(0, 1, 0, 7), 1);
        due.due("the one that came", some.with("sayingsBy", 0, 1, 0, 7).make().said(0, 2), 1);
        due.of(41, "BAD: SHEET, sort, n; -11; -13; -12: what stood ahead came.");
        inAllForEach(BAD, 0, outside(0, 3), "sayingsBy", 0, 0, -1, 1);
        inAllForEach(BAD, 1, outside(0, 2), "sayingsBy", 0, 0, -1, 1);
        inAllForEach(BAD, 3, outside(0, 12), "sayingsBy", 0, 0, -1, 1);
        for (int s = 0; s < 4; s++) due.stays(EMPTY, -11, "sayingsBy", s, 0, -1, 1);
        for (int sort = 0; sort < 3; sort++) {
            for (int s = 0; s < 3; s++) due.stays(RICH, s == sort ? -12 : -13, "sayingsBy", s, sort, -1, 1);
        }
        due.staysForEach(RICH, -12, 2, new int[] {-1, -3, 7, 8, 9, 10, MIN, MAX, MAX - 1, MAX - 2}, "sayingsBy", 0, 0, 0, 1);
        due.staysForEach(RICH, -12, 2, new int[] {-1, MIN, MAX, MAX - 36}, "sayingsBy", 0, 0, 0, 12);
        due.stays(RICH, -12, "sayingsBy", 2, 2, 0, 1);
        due.due("what stood ahead", rows.make().sayingsBy(3, 2, 31, 2), -12);
        due.due("what stood ahead came", rows.with("sayingsBy", 3, 2, 31, 2).seen().equals(rows.with("say", 0, 0, 0).seen()) ? 1 : 0, 1);
        due.due("eleven stood ahead", rows.with("sayingsBy", 3, 2, 1, 12).make().count(1), 11);
        due.due("eleven stood ahead", rows.make().sayingsBy(3, 2, 1, 12), -12);
    }

    private static void ofTaken() {
        due.of(42, "0 .. 11 SAYINGS, 12 .. 16 SPEAKERS, taken for 0 .. 5 a SPEAKER of that KIND (also of one that is one): its number; 6 a SAYING: 1 TURNED, 0 not.");
        Scene last = WHOLE.with("unsay").with("say", 4, 5, 1);
        due.stays(last, 1, "taken", 11, 6);
        due.stays(last, 0, "taken", 0, 6);
        due.stays(last, 0, "taken", 12, 0);
        due.stays(last, 4, "taken", 16, 0);
        int[] is = {0b000001, 0b000011, 0b000101, 0b001011, 0b010001, 0b100101};
        for (int kind = 0; kind < 6; kind++) {
            for (int as = 0; as < 6; as++) {
                due.stays(EMPTY.with("speaker", kind, 9), (is[kind] >> as & 1) == 1 ? 0 : -13, "taken", 12, as);
                due.stays(WHOLE.with("turn", 4, kind, 0), (is[kind] >> as & 1) == 1 ? 4 : -13, "taken", 16, as);
            }
        }
        due.of(42, "BAD: kind; -12: i; -11: nothing lies there; -13.");
        inAllForEach(BAD, 1, outside(0, 6), "taken", 17, 0);
        inAllForEach(-12, 0, outside(0, 16), "taken", 0, 0);
        inAllForEach(-12, 0, outside(0, 16), "taken", 0, 6);
        for (int kind = 0; kind < 7; kind++) {
            for (int i = 0; i < 17; i++) {
                due.stays(EMPTY, -11, "taken", i, kind);
                if (i > 13 || i > 1 && i < 12) due.stays(RICH, -11, "taken", i, kind);
            }
            if (kind < 6) due.stays(WHOLE, -13, "taken", 11, kind);
        }
        due.stays(WHOLE, -13, "taken", 12, 6);
        due.stays(WHOLE, -13, "taken", 16, 6);
        due.stays(WHOLE.with("unsay"), -11, "taken", 11, 6);
        due.stays(RICH.with("speaker", 0, 0).with("back"), -11, "taken", 14, 0);
    }

    private static void texts() {
        ofNew();
        ofCount();
        ofFeed();
        ofText();
        ofForce();
        ofAsks();
        ofMeans();
        ofPairs();
    }

    private static void talks() {
        ofSpeaker();
        ofTurn();
        ofTold();
        ofSay();
        ofUnsay();
        ofSaid();
        ofWorlds();
        ofBehind();
        ofCannot();
        ofLies();
        ofLeast();
        ofMad();
        ofHabit();
        ofKinds();
    }

    private static void questions() {
        ofAsk();
        ofTwo();
        ofParts();
        ofHide();
        ofSame();
        ofClaims();
        ofSettle();
        ofThrice();
        ofMany();
        ofJudge();
        ofFilm();
        ofDrawn();
        ofMean();
    }

    private static void host() {
        ofImage();
        ofSheet();
        ofCell();
        ofCopy();
        ofSayingsBy();
        ofTaken();
    }

    public static void main(String[] arguments) throws IOException {
        due = new Sentences();
        texts();
        talks();
        questions();
        host();
        due.end("edges of the promises", 1, 42);
    }
}

import java.io.IOException;

/** The edges that the document's terms name, sentence by sentence. */
public final class TermsEdgeTest {

    private static final int BAD = -2, FULL = -4;
    private static final int SPEAKER = 0, EARLY = 1, LATE = 2, TURNING = 3, MAD = 4, HIDER = 5;
    private static final long ALL = 0xFFFFFFFFL;
    private static final long A = 0xAAAAAAAAL, B = 0xCCCCCCCCL, C = 0xF0F0F0F0L, D = 0xFF00FF00L, E = 0xFFFF0000L;

    private static final Scene EMPTY = Scene.EMPTY;
    private static Sentences due;

    private static void objects() {
        due.of(0, "An object is used for at most 512 calls after it has been made");
        SaidTwice x = EMPTY.with("speaker", EARLY, 0).fair("b").make();
        int made = 1 + 6 + 1; // speaker, six times feed, text
        for (int calls = made; calls < 510; calls += 2) {
            due.due("say", x.say(0, 1, 0), 0);
            due.due("unsay", x.unsay(), 0);
        }
        due.due("call 511", x.say(0, 1, 0), 0);
        due.due("call 512", x.worlds(), B);
    }

    private static void things() {
        due.of(0, "WORLDS 0 .. 31: THING x is so in those whose number has bit x.");
        String[] names = {"a", "b", "c", "d", "e"};
        for (int x = 0; x < 5; x++) {
            SaidTwice one = EMPTY.text(names[x], "0", "1").make();
            due.due(names[x] + " in world 0", one.asks(1, 0, 0, 0), 0);
            due.due(names[x] + " in world 31", one.asks(1, 31, 0, 0), 1);
            for (int w = 0; w < 32; w++) due.due(names[x] + " in world " + w, one.asks(1, w, 0, 0), w >> x & 1);
        }
        due.stays(EMPTY, -5, "asks", 0, 32, 0, 0);
        due.stays(EMPTY, -5, "asks", 0, -1, 0, 0);
    }

    private static void speakersAndSayings() {
        due.of(0, "SPEAKERS are numbered from 0 on, 5 at most: of a KIND, with MORE (0 .. 9).");
        Scene five = EMPTY;
        for (int s = 0; s < 5; s++) {
            due.due("speaker " + s, five.make().speaker(EARLY, 9), s);
            due.due("speaker " + s, five.make().speaker(EARLY, 0), s);
            due.stays(five, BAD, "speaker", EARLY, 10);
            due.stays(five, BAD, "speaker", EARLY, -1);
            five = five.with("speaker", LATE, 2 * s);
        }
        due.stays(five, FULL, "speaker", EARLY, 9);
        due.of(0, "SAYINGS of THE TALK are numbered from 0 on, 12 at most");
        Scene twelve = five;
        for (int k = 0; k < 12; k++) {
            due.due("saying " + k, twelve.make().say(k % 5, 0, k % 2), k);
            twelve = twelve.with("say", k % 5, 0, k % 2);
        }
        due.stays(twelve, FULL, "say", 0, 0, 0);
    }

    private static void stands(String once) {
        due.due("once " + once, EMPTY.feed("once " + once + ";twice 0;costs 1;").make().text(), 1);
    }

    /** The fault is where the mark | stands, which is not fed. */
    private static void fault(String marked) {
        fault(marked.replace("|", ""), marked.indexOf('|'));
    }

    private static void fault(String text, int place) {
        due.due(text, EMPTY.feed(text).make().text(), -100 - place);
    }

    /** In a whole text, so that nothing else could be the fault. */
    private static void faultOfOnce(String marked) {
        fault("once " + marked + ";twice 0;costs 1;");
    }

    private static void tape() {
        due.of(0, "A TEXT is read from THE TAPE (160 bytes at most).");
        String text = "once a;twice not a;costs 1;";
        String longest = text + " ".repeat(160 - text.length());
        Scene full = EMPTY.feed(longest);
        due.due("160 bytes", full.make().count(4), 160);
        due.due("a text of 160 bytes", full.make().text(), 1);
        due.stays(full, FULL, "feed", 1, 32, 0, 0, 0, 0);
        StringBuilder once = new StringBuilder("once a");
        while (once.length() < 160 - 18) once.append("+0");
        SaidTwice x = EMPTY.feed(once + " ;twice 0;costs 9;").make();
        due.due("160 bytes", x.count(4), 160);
        due.due("its last byte stands", x.text(), 1);
        due.due("all its tokens count", x.means(1, 0), A);
        due.due("its last token counts", x.asks(1, 0, 0, 2), 9);
    }

    private static void tokens() {
        due.of(0, "TOKENS, each as long as can be: WORDS (as many letters a .. z as stand there)");
        fault("|oncea;twice 0;costs 1;");
        faultOfOnce("|ab");
        faultOfOnce("|az");
        faultOfOnce("|za");
        faultOfOnce("a |andb");
        faultOfOnce("|nota");
        faultOfOnce("|whoa");
        stands("who*0");
        due.of(0, "NUMBERS (as many digits as stand there; more than 4 are too long)");
        stands("0");
        stands("9999");
        stands("0000");
        faultOfOnce("|10000");
        faultOfOnce("|00000");
        faultOfOnce("a+|99999");
        faultOfOnce("|" + "1".repeat(130));
        faultOfOnce("12 |34");
        due.of(0, "SIGNS ( ) ; + - * < = ; blanks (32, 10) may stand between.");
        stands("(a)+b-c*d<e");
        stands("a=b");
        stands("\n a \n+\nb ");
        stands("( a )");
        due.due("no blanks", EMPTY.feed("once(a);twice-a;costs 1;").make().text(), 1);
        for (int b : new int[] {0, 9, 11, 12, 13, 31, 33, 127, 128, 160, 255}) faultOfOnce("a|" + (char) b);
    }

    private static void grammar() {
        due.of(0, "TEXT: once E ; twice E ; costs E ;");
        fault("|");
        fault("|;");
        fault("|a;twice 0;costs 1;");
        fault("once a;|costs 1;");
        fault("once a;|once a;");
        fault("once a;twice 0;|;");
        fault("once a;twice 0;costs 1|");
        fault("once a;twice 0;costs 1;|;");
        fault("once a;twice 0;costs 1;|once a;twice 0;costs 1;");
        fault("once |;twice 0;costs 1;");
        fault("once a;twice |;costs 1;");
        fault("once a;twice 0;costs |;");
        for (String key : new String[] {"once", "twice", "costs", "or", "and", "not"}) {
            if (!key.equals("once")) fault("|" + key + " a;twice 0;costs 1;");
            if (!key.equals("twice")) fault("once a;|" + key + " 0;costs 1;");
            if (!key.equals("costs")) fault("once a;twice 0;|" + key + " 1;");
            if (!key.equals("not")) faultOfOnce("|" + key);
            if (!key.equals("or") && !key.equals("and")) faultOfOnce("a |" + key + " b");
            fault("once a;twice 0;costs 1;|" + key);
        }
        due.of(0, "NOT: not NOT, or SUM, perhaps < or = and a SUM.");
        stands("a<b");
        faultOfOnce("a<b|<c");
        faultOfOnce("a=b|<c");
        faultOfOnce("a=b|=c");
        stands("(a=b)=c");
        faultOfOnce("a+|not b");
        faultOfOnce("a=|not b");
        faultOfOnce("-|not a");
        stands("not a=b");
        due.of(0, "NAMES: a b c d e who.");
        for (String name : new String[] {"a", "b", "c", "d", "e", "who"}) stands(name);
        for (String word : new String[] {"f", "z", "wh", "whose", "aa"}) faultOfOnce("|" + word);
    }

    private static long meaning(String once) {
        return EMPTY.text(once, "0", "1").make().means(1, 0);
    }

    private static void integers() {
        due.of(0, "An E is an int (32 bits, wrapping)");
        due.due("2^31 is below 0", meaning("4096*4096*128<0"), ALL);
        due.due("2^32 is 0", meaning("4096*4096*256=0"), ALL);
        due.due("2^32 is not so", meaning("4096*4096*256"), 0);
        due.due("a product", meaning("9999*9999*9999<0"), 9999 * 9999 * 9999 < 0 ? ALL : 0);
        due.due("a sum", meaning("4096*4096*127+4096*4096<0"), ALL);
        due.due("a difference", meaning("0<4096*4096*128-1"), ALL);
        due.due("the least has no opposite", meaning("-(4096*4096*128)<0"), ALL);
        due.due("< does not wrap", meaning("4096*4096*128<1"), ALL);
        due.due("< does not wrap", meaning("4096*4096*128-1<4096*4096*128"), 0);
        due.of(0, "of or, and, not, <, = 1 or 0 (what is not 0 is true)");
        due.due("or", meaning("(7 or 8)+(0 or 0-3)+(0 or 0)=2"), ALL);
        due.due("and", meaning("(7 and 8)+(0 and 3)+(2 and 1-1)=1"), ALL);
        due.due("not", meaning("(not 7)+(not 0-1)+(not 0)=1"), ALL);
        due.due("<", meaning("(1<2)+(2<2)+(3<2)=1"), ALL);
        due.due("=", meaning("(1=2)+(2=2)+(3=2)=1"), ALL);
    }

    private static void faults() {
        due.of(0, "(the text's size, if it ends too early)");
        for (String text : new String[] {"", " ", "\n\n", "once", "once ", "once a", "once a;twice 0;costs 1", "once (a", "once not  "}) fault(text + "|");
        fault(" ".repeat(160) + "|");
        fault("once a+" + " ".repeat(153) + "|");
        due.of(0, "also of a byte that begins none, of a WORD that is neither KEY nor NAME, a NUMBER that is too long");
        for (int b = 0; b < 256; b++) {
            boolean begins = b >= 'a' && b <= 'z' || b >= '0' && b <= '9' || "();+-*<= \n".indexOf(b) >= 0;
            if (!begins) fault("once a" + (char) b + ";twice 0;costs 1;", 6);
        }
        fault(" ".repeat(159) + "|?");
        for (String word : new String[] {"o", "n", "an", "no", "onc", "ander", "twicee", "cost"}) fault("once a |" + word);
        for (String word : new String[] {"ance", "wwice", "dosts", "ind", "ur", "mot", "tho", "whe", "nod", "anb", "oncf", "twicf", "costt"}) {
            fault("once a |" + word);
            faultOfOnce("|" + word);
            fault("|" + word + " a;twice 0;costs 1;");
        }
        fault("once a+|12345");
        fault("once 1234|x");
    }

    private static void openOnes() {
        due.of(0, "a ( , a not, a - ahead of a ONE while 5 of these are open");
        stands("(((((a)))))");
        faultOfOnce("(((((|(a))))))");
        stands("not not not not not a");
        faultOfOnce("not not not not not |not a");
        stands("-----a");
        faultOfOnce("-----|-a");
        stands("not(not(-a))");
        faultOfOnce("not(not(-|-a))");
        faultOfOnce("not(not(-|(a)))");
        faultOfOnce("((((not |-a))))");
        faultOfOnce("(((((|not a)))))");
        stands("(((((a-b)))))");
        faultOfOnce("(((((a-|-b)))))");
        stands("((((-a-b))))");
        due.of(0, "(a ( till its ) , not and - till what they belong to ends)");
        stands("(a)+(b)+(c)+(a)+(b)+(c)+(a)");
        stands("(((((a)))))*(((((b)))))");
        stands("((((a)+(b))))-((((-c))))");
        stands("-a+-b+-c+-a+-b+-c");
        stands("-a*(((((b)))))");
        stands("-a*-----b");
        faultOfOnce("-(a*(((|(b)))))");
        stands("-(a*(((b))))");
        stands("not a and not b and not c and not a and not b and not c");
        stands("not a and (((((b)))))");
        faultOfOnce("not a=((((|(b)))))");
        faultOfOnce("not a+((((|(b)))))");
        stands("not a=((((b))))");
        stands("not not not not a=-b");
        faultOfOnce("not not not not a=-|-b");
        faultOfOnce("not not not not not a=|-b");
        stands("not not not not not a or not not not not not b");
        stands("not(not(a)) and not(not(-a)) or not(not(-b))");
    }

    private static void texts() {
        due.of(0, "TEXTS are numbered from 0 on, 6 at most; TEXT 0, at first, and THE LAW: once 1 ; twice 0 ; costs 1 ;");
        due.due("texts", new SaidTwice().count(2), 1);
        due.due("the law", new SaidTwice().count(3), 0);
        for (int w = 0; w < 32; w++) {
            for (int who = 0; who < 5; who++) {
                due.stays(EMPTY, 1, "asks", 0, w, who, 0);
                due.stays(EMPTY, 0, "asks", 0, w, who, 1);
                due.stays(EMPTY, 1, "asks", 0, w, who, 2);
            }
        }
        Scene six = EMPTY;
        for (int t = 1; t < 6; t++) {
            due.due("text " + t, six.feed("once a;twice b;costs 2;").make().text(), t);
            six = six.fair("a");
        }
        due.stays(six.feed("once a;twice b;costs 2;"), FULL, "text");
        due.of(0, "who: the SPEAKER's number (0, where nobody is told)");
        Scene who = EMPTY.text("who=4", "not who=4", "who*9").text("who", "who=0", "1").with("force", 2);
        for (int s = 0; s < 5; s++) who = who.with("speaker", EARLY, 0);
        due.due("the law is nobody's", who.make().worlds(), 0);
        due.due("the law is nobody's", who.with("force", 0).with("say", 4, 1, 0).make().worlds(), ALL);
        due.due("said by 4", who.with("force", 0).with("say", 3, 1, 0).make().worlds(), 0);
        due.due("said by 0", who.with("force", 0).with("say", 0, 2, 1).make().worlds(), ALL);
        due.due("asked of 4", who.make().asks(1, 0, 4, 2), 36);
        due.due("meant by nobody", who.make().means(2, 1), ALL);
    }

    private static void costs() {
        due.of(0, "ONCE, TWICE are so, if once, twice are not 0.");
        SaidTwice x = EMPTY.text("a-b", "-5", "1").text("4096*4096*128", "0-0", "1").make();
        due.due("1 and -1", x.means(1, 0), A ^ B);
        due.due("-5", x.means(1, 1), ALL);
        due.due("the least", x.means(2, 0), ALL);
        due.due("0", x.means(2, 1), 0);
        due.of(0, "costs (in WORLD 0; 0 .. 99, else the bound)");
        String[] told = {"0", "1", "98", "99", "100", "101", "9999", "-1", "-99", "0-9999", "4096*4096*128", "4096*4096*128-1", "4096*4096*256+5",
            "7+90*a+90*b+90*c+90*d+90*e", "a=0"};
        int[] dues = {0, 1, 98, 99, 99, 99, 99, 0, 0, 0, 0, 99, 5, 7, 1};
        for (int i = 0; i < told.length; i++) {
            Scene scene = EMPTY.text("1", "0", told[i]);
            for (int w : new int[] {0, 1, 31}) due.stays(scene, dues[i], "asks", 1, w, 0, 2);
        }
    }

    /** Worlds that fit, where a speaker of a kind says a, then b, as saying n. */
    private static long left(int kind, int more, int n) {
        Scene scene = EMPTY.text("a", "b", "1").with("speaker", SPEAKER, 0).with("speaker", kind, more);
        for (int k = 0; k < n; k++) scene = scene.with("say", 0, 0, 0);
        return scene.with("say", 1, 1, 0).make().worlds();
    }

    private static void kinds() {
        due.of(0, "if n is without rest by (MORE and 2), p and q change places.");
        long early = A & ~B;
        long changed = B & ~A;
        for (int more = 0; more < 10; more++) {
            for (int n = 0; n < 12; n++) due.due(n + " by " + (more + 2), left(TURNING, more, n), n % (more + 2) == 0 ? changed : early);
        }
        due.due("0 by 2", left(TURNING, 0, 0), changed);
        due.due("1 by 2", left(TURNING, 0, 1), early);
        due.due("2 by 2", left(TURNING, 0, 2), changed);
        due.due("2 by 3", left(TURNING, 1, 2), early);
        due.due("3 by 3", left(TURNING, 1, 3), changed);
        due.due("0 by 11", left(TURNING, 9, 0), changed);
        due.due("10 by 11", left(TURNING, 9, 10), early);
        due.due("11 by 11", left(TURNING, 9, 11), changed);
        due.due("9 by 11", left(TURNING, 9, 9), early);
        due.of(0, "4 MAD (a SPEAKER): if a SPEAKER could not.");
        due.due("both or neither", left(MAD, 0, 0), ~(A ^ B) & ALL);
        due.of(0, "5 HIDER (a LATE): also if neither is so, and n is MORE or more.");
        due.due("0, of more 0", left(HIDER, 0, 0), ~A & ALL);
        due.due("0, of more 1", left(HIDER, 1, 0), B & ~A);
        due.due("1, of more 1", left(HIDER, 1, 1), ~A & ALL);
        due.due("8, of more 9", left(HIDER, 9, 8), B & ~A);
        due.due("9, of more 9", left(HIDER, 9, 9), ~A & ALL);
        due.due("10, of more 9", left(HIDER, 9, 10), ~A & ALL);
        due.due("11, of more 9", left(HIDER, 9, 11), ~A & ALL);
    }

    private static void fits() {
        due.of(0, "A WORLD FITS some SAYINGS, if ONCE of THE LAW is so in it (who 0), and each of their SPEAKERS CAN SAY it there");
        Scene lawOfE = EMPTY.fair("e").with("force", 1);
        due.due("nothing said", EMPTY.make().worlds(), ALL);
        due.due("nothing said, but a law", lawOfE.make().worlds(), E);
        due.due("a law of no world", EMPTY.text("0", "1", "1").with("force", 1).make().worlds(), 0);
        due.of(0, "THE NEXT SAYING is that of the number how many there are.");
        Scene hider = EMPTY.text("a", "b", "1").with("speaker", HIDER, 9).with("speaker", SPEAKER, 0);
        for (int k = 0; k < 9; k++) hider = hider.with("say", 1, 0, 0);
        due.due("number 9", hider.make().parts(0, 1, 0), ~A & ALL);
        due.due("number 8", hider.with("unsay").make().parts(0, 1, 0), B & ~A);
        Scene turning = EMPTY.text("a", "b", "1").with("speaker", TURNING, 9).with("speaker", SPEAKER, 0);
        for (int k = 0; k < 12; k++) turning = turning.with("say", 1, 0, 0);
        due.due("number 12", turning.make().parts(0, 1, 0), A & ~B);
        due.due("number 12", turning.with("turn", 0, TURNING, 4).make().parts(0, 1, 0), B & ~A);
    }

    private static void sure() {
        due.of(0, "SURE: a THING that is so in all of some WORLDS, or in none of them (no WORLDS: nothing is SURE).");
        Scene torn = EMPTY.fair("c").with("speaker", EARLY, 0).with("say", 0, 1, 0);
        due.stays(torn, 4, "behind", 1, 1);
        due.stays(torn, 0, "behind", 1, 2);
        torn = torn.with("say", 0, 1, 1);
        due.stays(torn, 0, "behind", 2, 1);
        due.stays(torn, 0, "behind", 2, 2);
        due.stays(torn, 0b0101, "hide", 0, 4, 2);
        Scene one = EMPTY.text("a*b*c*d*e", "0", "1").with("force", 1);
        due.stays(one, 31, "behind", 0, 1);
        due.stays(one, 0, "behind", 0, 2);
        Scene none = EMPTY.text("a+b+c+d+e=0", "0", "1").with("force", 1);
        due.stays(none, 0, "behind", 0, 1);
        due.stays(none, 31, "behind", 0, 2);
    }

    private static void questions() {
        due.of(0, "WORST of it, some WORLDS being left: the greater of how many of these it FITS as told, and TURNED.");
        due.stays(EMPTY.with("speaker", EARLY, 0), 32, "ask", 1);
        due.stays(EMPTY.with("speaker", MAD, 0), 0, "ask", 1);
        due.stays(EMPTY.text("b and c", "not(b and c)", "9").with("speaker", EARLY, 0), 24, "ask", 1);
        due.stays(EMPTY.text("b or c", "not(b or c)", "9").with("speaker", EARLY, 0), 24, "ask", 1);
        due.of(0, "BEST QUESTION: of least WORST, of like ones the one that costs least, then the first by SPEAKERS, then TEXTS.");
        Scene like = EMPTY.text("a", "not a", "5").text("b", "not b", "5").with("speaker", EARLY, 0).with("speaker", LATE, 0);
        due.stays(like, 1, "ask", 0);
        due.stays(like.text("c", "not c", "4"), 3, "ask", 0);
        due.stays(like.text("c", "not c", "5-who"), 13, "ask", 0);
        due.stays(like.text("c and d", "not(c and d)", "0"), 1, "ask", 0);
    }

    private static void strangers() {
        due.of(0, "A STRANGER, by a SEED (0 .. 99999)");
        Scene two = EMPTY.fair("a").with("speaker", EARLY, 0).fair("b*c*d*e").with("force", 2);
        due.stays(two, 1, "drawn", 0);
        due.stays(two, 1, "drawn", 99999);
        due.staysForEach(two, BAD, 0, Sentences.outside(0, 99999), "drawn", 0);
        due.of(0, "While more than one is left, 6 times at most");
        due.stays(two.with("say", 0, 1, 0), 0, "drawn", 1);
        due.stays(EMPTY.with("speaker", EARLY, 0), 6, "drawn", 1);
        due.stays(EMPTY.fair("a").fair("b").fair("c").fair("d").fair("e").with("speaker", EARLY, 0), 5, "drawn", 1);
        due.of(0, "He ends, too, if there is no QUESTION.");
        due.stays(EMPTY, 0, "drawn", 1);
        due.stays(EMPTY.fair("a"), 0, "drawn", 1);
        due.of(0, "the SAYING's number being 1 more each time");
        hiderOfNumbers();
    }

    /**
     * Worlds 30 and 31 are lawful. The hider can say a, a in 30 alone, where neither is so, and
     * just from number 5 on: till then nothing is said; then it parts the two, if 30 is true.
     */
    private static void hiderOfNumbers() {
        Scene hider = EMPTY.text("b*c*d*e", "0", "1").text("a", "a", "0").with("force", 1).with("speaker", HIDER, 5);
        for (int n = 0; n <= 8; n++) {
            due.due("world 30, from number " + n, hider.make().drawn(1), n < 5 ? 6 - n : 1);
            due.due("world 31, from number " + n, hider.make().drawn(0), 6);
            hider = hider.with("say", 0, 0, 1);
        }
    }

    private static void lots() {
        due.of(0, "LOTS: the first is (SEED and 1) times 48271 modulo 2147483647, each further one the last times 48271 modulo 2147483647.");
        Scene four = EMPTY.text("c*d*e", "0", "1").text("b", "a", "0").text("a", "not a", "5").with("force", 1).with("speaker", HIDER, 0);
        SaidTwice x = four.make();
        for (int seed : new int[] {0, 1, 2, 3, 44486, 44487, 44488, 44489, 44490, 44491, 88974, 88975, 88976, 99998, 99999}) {
            due.due("seed " + seed, x.drawn(seed), askedOfFour(seed));
        }
        for (int seed = 0; seed < 99999; seed += 1001) due.due("seed " + seed, x.drawn(seed), askedOfFour(seed));
        due.of(0, "of WORLDS that FIT THE TALK, how many being m, number (LOT modulo m), from 0, is the true one.");
        SaidTwice three = EMPTY.text("a+b+c=1 and d+e=0", "0", "1").text("a", "not a", "0").with("force", 1).with("speaker", EARLY, 0).make();
        for (int seed = 0; seed < 99999; seed += 1013) {
            // Once world 1, number 0, is parted from 2 and 4, nothing parts these two.
            long number = (seed + 1L) * 48271 % 2147483647L % 3;
            due.due("seed " + seed, three.drawn(seed), number == 0 ? 1 : 6);
        }
        due.due("the last seed", three.drawn(99999), 100000L * 48271 % 2147483647L % 3 == 0 ? 1 : 6);
    }

    /** Asked in worlds 28 .. 31: see PromiseTest, drawnByLot; only world 28 leaves it to the lots. */
    static int askedOfFour(int seed) {
        long lot = (seed + 1L) * 48271 % 2147483647L;
        int world = (int) (lot % 4);
        if (world != 0) return world == 1 ? 2 : 6;
        for (int asked = 1; asked <= 6; asked++) {
            lot = lot * 48271 % 2147483647L;
            if (lot % 2 == 0) return asked == 1 ? 2 : asked;
        }
        return 6;
    }

    private static void sheets() {
        due.of(0, "SHEETS 0 .. 3 are rows of numbers, or missing (as all are at first): of sort 0 bytes, 1 shorts, 2 ints, 40 at most.");
        for (int s = 0; s < 4; s++) {
            due.stays(EMPTY, -11, "cell", s, 0, 0);
            for (int sort = 0; sort < 3; sort++) {
                Scene forty = EMPTY.with("sheet", s, sort, 40);
                due.stays(forty, 1, "cell", s, 39, 0);
                due.stays(forty, -12, "cell", s, 40, 0);
                due.stays(forty, BAD, "sheet", s, sort, 41);
            }
            due.stays(EMPTY, BAD, "sheet", s, 3, 1);
            due.stays(EMPTY, BAD, "sheet", s, -2, 1);
        }
        due.staysForEach(EMPTY, BAD, 0, Sentences.outside(0, 3), "cell", 0, 0, 0);
    }

    private static void images() {
        due.of(0, "AN IMAGE keeps THE TALK, KINDS, MORE, how many SPEAKERS there are, THE LAW.");
        Scene kept = EMPTY.fair("a").with("speaker", TURNING, 9).with("speaker", HIDER, 0).with("force", 1);
        for (int k = 0; k < 12; k++) kept = kept.with("say", k % 2, k % 2, k / 6);
        Scene changed = kept.with("image").with("force", 0).with("turn", 0, MAD, 1).with("turn", 1, LATE, 8).with("speaker", EARLY, 3);
        for (int k = 0; k < 12; k++) changed = changed.with("unsay");
        for (int k = 0; k < 12; k++) changed = changed.with("say", 2, 0, 0);
        due.due("all is as it was", changed.with("back").seen().equals(kept.with("image").seen()) ? 1 : 0, 1);
        Scene nothing = EMPTY.fair("a").with("image").with("speaker", EARLY, 0).with("say", 0, 1, 0).with("force", 1);
        due.due("an empty talk", nothing.with("back").seen().equals(EMPTY.fair("a").with("image").seen()) ? 1 : 0, 1);
    }

    public static void main(String[] arguments) throws IOException {
        due = new Sentences();
        objects();
        things();
        speakersAndSayings();
        tape();
        tokens();
        grammar();
        integers();
        faults();
        openOnes();
        texts();
        costs();
        kinds();
        fits();
        sure();
        questions();
        strangers();
        lots();
        sheets();
        images();
        due.end("edges of the terms", 0, 0);
    }
}

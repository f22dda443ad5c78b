/** For each promise of the document a method of its own: ordinary inputs, edges, wrong inputs. */
public final class PromiseTest {

    private static final long NO = SaidTwice.NO;
    private static final int BAD = -2, STATE = -3, FULL = -4;
    private static final int SPEAKER = 0, EARLY = 1, LATE = 2, TURNING = 3, MAD = 4, HIDER = 5;
    private static final long ALL = 0xFFFFFFFFL;
    private static final long A = 0xAAAAAAAAL, B = 0xCCCCCCCCL, C = 0xF0F0F0F0L, D = 0xFF00FF00L, E = 0xFFFF0000L;
    private static final String[] NAMES = {"a", "b", "c", "d", "e"};

    private static int wrong = 0;
    private static int checks = 0;

    private static void due(String what, long got, long due) {
        checks++;
        if (got == due) return;
        wrong++;
        System.out.println(what + " answered " + got + ", due is " + due);
    }

    private static void feed(SaidTwice x, String bytes) {
        int[] five = new int[5];
        for (int i = 0; i < bytes.length(); i += 5) {
            int n = Math.min(5, bytes.length() - i);
            for (int k = 0; k < n; k++) five[k] = bytes.charAt(i + k);
            x.feed(n, five[0], five[1], five[2], five[3], five[4]);
        }
    }

    private static int text(SaidTwice x, String text) {
        feed(x, text);
        return x.text();
    }

    private static int pair(SaidTwice x, String once, String twice, String costs) {
        return text(x, "once " + once + ";twice " + twice + ";costs " + costs + ";");
    }

    /** A pair of which always just one is so. */
    private static int fair(SaidTwice x, String once) {
        return pair(x, once, "not(" + once + ")", "1");
    }

    /** One early speaker, and texts 1 .. 5 of a .. e. */
    private static SaidTwice earlyOfThings() {
        SaidTwice x = new SaidTwice();
        for (String name : NAMES) fair(x, name);
        x.speaker(EARLY, 0);
        return x;
    }

    /** One speaker of a kind, text 1: a, then b. */
    private static SaidTwice oneSaying(int kind, int more) {
        SaidTwice x = new SaidTwice();
        pair(x, "a", "b", "1");
        x.speaker(kind, more);
        return x;
    }

    private static void row(SaidTwice x, int s, int sort, int... cells) {
        x.sheet(s, sort, cells.length);
        for (int i = 0; i < cells.length; i++) x.cell(s, i, cells[i]);
    }

    private static void unsayAll(SaidTwice x) {
        for (int k = x.count(1); k > 0; k--) due("13 unsaid", x.unsay(), k - 1);
    }

    private static void newObject() {
        SaidTwice x = new SaidTwice();
        due("1 speakers", x.count(0), 0);
        due("1 sayings", x.count(1), 0);
        due("1 texts", x.count(2), 1);
        due("1 law", x.count(3), 0);
        due("1 tape", x.count(4), 0);
        due("1 image", x.back(), STATE);
        for (int s = 0; s < 4; s++) due("1 sheet", x.cell(s, 0, 0), -11);
        due("1 worlds", x.worlds(), ALL);
        due("1 once of text 0", x.means(0, 0), ALL);
        due("1 twice of text 0", x.means(0, 1), 0);
        for (int who = 0; who < 5; who++) {
            due("1 once", x.asks(0, who, who, 0), 1);
            due("1 twice", x.asks(0, who, who, 1), 0);
            due("1 costs", x.asks(0, who, who, 2), 1);
        }
    }

    private static void count() {
        SaidTwice x = earlyOfThings();
        x.speaker(MAD, 0);
        x.say(0, 1, 0);
        x.say(0, 2, 0);
        x.say(0, 3, 0);
        x.force(4);
        feed(x, "abcdefg");
        due("2 speakers", x.count(0), 2);
        due("2 sayings", x.count(1), 3);
        due("2 texts", x.count(2), 6);
        due("2 law", x.count(3), 4);
        due("2 tape", x.count(4), 7);
        due("2 what", x.count(5), BAD);
        due("2 what", x.count(-1), BAD);
    }

    private static void feed() {
        SaidTwice x = new SaidTwice();
        due("3", x.feed(1, 111, 0, 0, 0, 0), 1);
        due("3", x.feed(3, 110, 99, 101, 88, 88), 4);
        due("3 only n come", x.text(), -104);
        due("3 n", x.feed(0, 1, 1, 1, 1, 1), BAD);
        due("3 n", x.feed(6, 1, 1, 1, 1, 1), BAD);
        due("3 n", x.feed(-1, 1, 1, 1, 1, 1), BAD);
        int[] outside = {-1, 256, Integer.MAX_VALUE, Integer.MIN_VALUE};
        for (int v : outside) {
            due("3 a", x.feed(1, v, 0, 0, 0, 0), BAD);
            due("3 b", x.feed(1, 0, v, 0, 0, 0), BAD);
            due("3 c", x.feed(1, 0, 0, v, 0, 0), BAD);
            due("3 d", x.feed(1, 0, 0, 0, v, 0), BAD);
            due("3 e", x.feed(1, 0, 0, 0, 0, v), BAD);
        }
        due("3 nothing came", x.count(4), 0);
        due("3 bytes 0 .. 255", x.feed(5, 0, 255, 0, 255, 0), 5);
        for (int i = 2; i <= 31; i++) due("3", x.feed(5, 1, 2, 3, 4, 5), 5 * i);
        due("3", x.feed(3, 1, 2, 3, 4, 5), 158);
        due("3 no room for all", x.feed(3, 1, 2, 3, 4, 5), FULL);
        due("3 bad ahead of full", x.feed(3, 1, 2, 3, 4, 256), BAD);
        due("3 none came", x.count(4), 158);
        due("3 room for just these", x.feed(2, 1, 2, 3, 4, 5), 160);
        due("3 full", x.feed(1, 1, 2, 3, 4, 5), FULL);
    }

    private static void fault(String text, int place) {
        SaidTwice x = new SaidTwice();
        due("4 fault of " + text, text(x, text), -100 - place);
        due("4 tape behind a fault", x.count(4), 0);
        due("4 texts behind a fault", x.count(2), 1);
    }

    private static void stands(String once) {
        SaidTwice x = new SaidTwice();
        due("4 " + once, pair(x, once, "0", "1"), 1);
        due("4 tape behind a text", x.count(4), 0);
    }

    private static void text() {
        for (String once : new String[] {"a", "who", "1234", "a<b", "a=b", "not a", "not not a", "a and b or c", "a+b-c*d",
            "-a", "--a", "a*-b", "a- -b", "(a)", "a=(not b)", "not a=b and not c<d", "-----a*(b)+-(c)", "(((((a-b)))))",
            "not not not not not a and not b", "(not(not(a)))", "( ( ( ( ( a ) ) ) ) ) * ( b )", "0000", "a=b or c=d"}) {
            stands(once);
        }
        due("4 numbers touch words", text(new SaidTwice(), "once1;twice0;costs1;"), 1);
        due("4 blanks", text(new SaidTwice(), " \nonce\n1 ;\ntwice 0; costs 1 ; \n"), 1);
        fault("", 0);
        fault("  \n", 3);
        fault("once", 4);
        fault("once  ", 6);
        fault("once a", 6);
        fault("once a;", 7);
        fault("once a;twice 0;costs 1", 22);
        fault("once a;twice 0;costs 1;;", 23);
        fault("once a;twice 0;costs 1; once", 24);
        fault("once a;twice 0;costs 1;  ?", 25);
        fault("twice a;", 0);
        fault("once a;once a;", 7);
        fault("once a;costs 1;", 7);
        fault("once a;twice 0;twice 0;", 15);
        fault("oncea;", 0);
        fault("once 12345;", 5);
        fault("once a+00001;", 7);
        fault("once 12a;", 7);
        fault("once aa;", 5);
        fault("once f;", 5);
        fault("once whom;", 5);
        fault("once wh;", 5);
        fault("once a andb;", 7);
        fault("once A;", 5);
        fault("once a\t;", 6);
        fault("once a" + (char) 0 + ";", 6);
        fault("once a" + (char) 255 + ";", 6);
        fault("once a>b;", 6);
        fault("once a<b<c;", 8);
        fault("once a=b=c;", 8);
        fault("once a+not b;", 7);
        fault("once a=not b;", 7);
        fault("once -not a;", 6);
        fault("once a*;", 7);
        fault("once *a;", 5);
        fault("once +a;", 5);
        fault("once a b;", 7);
        fault("once a(b);", 6);
        fault("once (a;", 7);
        fault("once a);", 6);
        fault("once ();", 6);
        fault("once or;", 5);
        fault("once a or;", 9);
        fault("once not;", 8);
        fault("once a<;", 7);
        fault("once a+;", 7);
        fault("once -;", 6);
        fault("once (;", 6);
        fault("once (a-);", 8);
        fault("once once;", 5);
        fault("once a and;", 10);
        fault("once a and or b;", 11);
        fault("once ;", 5);
        fault("once ((((((a", 10);
        fault("once ------a", 10);
        fault("once not not not not not not a", 25);
        fault("once not(-(not-a", 14);
        fault("once (((((not a", 10);
        fault("once (((((a+-b", 12);
        fault("once (((((a and (b", 16);
        fault("once -----(a", 10);
        faultsOfSpelling();
        longTexts();
        fullTexts();
    }

    private static void faultsOfSpelling() {
        String[] keys = {"ance", "onc", "onces", "ones", "twise", "cost", "coste"};
        for (String key : keys) fault(key + " a;", 0);
        fault("once a ar b;", 7);
        fault("once a end b;", 7);
        fault("once nor a;", 5);
        fault("once sot a;", 5);
        fault("once tho;", 5);
        fault("once z;", 5);
        for (int b = 0; b < 256; b++) {
            boolean isToken = b >= 'a' && b <= 'z' || b >= '0' && b <= '9' || "();+-*<= \n".indexOf(b) >= 0;
            if (isToken) continue;
            fault((char) b + " a;twice 0;costs 1;", 0);
            fault("once " + (char) b + ";twice 0;costs 1;", 5);
            fault("once a " + (char) b + " a;twice 0;costs 1;", 7);
            fault("once a;twice 0;costs 1;" + (char) b, 23);
        }
    }

    private static void longTexts() {
        SaidTwice x = new SaidTwice();
        for (int t = 1; t < 6; t++) {
            StringBuilder once = new StringBuilder("a");
            while (once.length() < 130) once.append("+1-1");
            due("4 a long text", pair(x, once.toString(), "b", "" + t), t);
            due("4 a long text", x.means(t, 0), A);
            due("4 a long text", x.means(t, 1), B);
            due("4 a long text", x.asks(t, 0, 0, 2), t);
        }
    }

    private static void fullTexts() {
        SaidTwice x = new SaidTwice();
        for (int t = 1; t < 6; t++) due("4", fair(x, "a"), t);
        feed(x, "once !");
        due("4 full ahead of a fault", x.text(), FULL);
        due("4 the tape stays", x.count(4), 6);
        due("4 texts", x.count(2), 6);
    }

    private static void force() {
        SaidTwice x = earlyOfThings();
        due("5", x.force(2), 0);
        due("5", x.force(5), 2);
        due("5 law", x.count(3), 5);
        due("5 worlds", x.worlds(), E);
        due("5 no such text", x.force(6), BAD);
        due("5 no such text", x.force(-1), BAD);
        due("5 nothing changed", x.force(0), 5);
        due("5 same", x.force(0), 0);
    }

    private static long onceOf(String once) {
        SaidTwice x = new SaidTwice();
        pair(x, once, "0", "1");
        return x.means(1, 0);
    }

    private static long costOf(String costs, int who) {
        SaidTwice x = new SaidTwice();
        pair(x, "1", "0", costs);
        due("6 costs in world 0, whichever is told", x.asks(1, 31, who, 2), x.asks(1, 0, who, 2));
        return x.asks(1, 17, who, 2);
    }

    private static void asks() {
        SaidTwice x = new SaidTwice();
        pair(x, "a and who=3", "who+b", "who*40+2+e");
        for (int w = 0; w < 32; w++) {
            for (int who = 0; who < 5; who++) {
                due("6 once", x.asks(1, w, who, 0), w % 2 == 1 && who == 3 ? 1 : 0);
                due("6 twice", x.asks(1, w, who, 1), who + (w >> 1 & 1) > 0 ? 1 : 0);
                due("6 costs", x.asks(1, w, who, 2), who == 0 ? 2 : who == 1 ? 42 : who == 2 ? 82 : 99);
            }
        }
        due("6 text", x.asks(2, 0, 0, 0), -5);
        due("6 text", x.asks(-1, 0, 0, 0), -5);
        due("6 world", x.asks(1, 32, 0, 0), -5);
        due("6 world", x.asks(1, -1, 9, 9), -5);
        due("6 world, also for costs", x.asks(1, 32, 0, 2), -5);
        due("6 who", x.asks(1, 0, 5, 0), -7);
        due("6 who", x.asks(1, 0, -1, 0), -7);
        due("6 part", x.asks(1, 0, 0, 3), -7);
        due("6 part", x.asks(1, 0, 0, -1), -7);
        due("6 cost", costOf("99", 0), 99);
        due("6 cost above", costOf("100", 0), 99);
        due("6 cost below", costOf("-1", 0), 0);
        due("6 cost in world 0", costOf("5+a+b+c+d+e", 0), 5);
        due("6 cost wraps", costOf("4096*4096*128", 0), 0);
        due("6 cost wraps", costOf("4096*4096*256+7", 0), 7);
        meanings();
    }

    private static void meanings() {
        due("6 not binds looser than =", onceOf("not a=b"), A ^ B);
        due("6 not binds tighter than and", onceOf("not a and b"), ~A & B);
        due("6 and ahead of or", onceOf("a or b and c"), A | B & C);
        due("6 and ahead of or", onceOf("a and b or c"), A & B | C);
        due("6 brackets", onceOf("(a or b) and c"), (A | B) & C);
        due("6 * ahead of +", onceOf("1+2*3=7"), ALL);
        due("6 - from the left", onceOf("9-4-3=2"), ALL);
        due("6 - and +", onceOf("9-4+3=8"), ALL);
        due("6 negative", onceOf("-a<0"), A);
        due("6 negative ahead of *", onceOf("-2*3+7=1"), ALL);
        due("6 not is 1 or 0", onceOf("(not 5)=0 and (not 0)=1"), ALL);
        due("6 and is 1 or 0", onceOf("(2 and 4)=1 and (0 and 4)=0"), ALL);
        due("6 or is 1 or 0", onceOf("(2 or 4)=1 and (0 or 0)=0"), ALL);
        due("6 < is 1 or 0", onceOf("(2<3)+(3<3)+(4<3)=1"), ALL);
        due("6 = is 1 or 0", onceOf("(2=3)+(3=3)+(3=3)=2"), ALL);
        due("6 what is not 0", onceOf("b-a"), A ^ B);
        due("6 wraps to 0", onceOf("4096*4096*256"), 0);
        due("6 wraps to below 0", onceOf("4096*4096*128<0"), ALL);
        due("6 counts", onceOf("a+b+c+d+e<1"), 1);
        due("6 all names", onceOf("a*b*c*d*e=1 and who=0"), 0x80000000L);
    }

    private static void means() {
        SaidTwice x = earlyOfThings();
        long[] so = {ALL, A, B, C, D, E};
        for (int t = 0; t < 6; t++) {
            due("7 once", x.means(t, 0), so[t]);
            due("7 twice", x.means(t, 1), ~so[t] & ALL);
        }
        x.force(1);
        due("7 the law does not matter", x.means(2, 0), B);
        due("7 who 0", onceOf("who=0"), ALL);
        due("7 text", x.means(6, 0), NO);
        due("7 text", x.means(-1, 0), NO);
        due("7 part", x.means(0, 2), NO);
        due("7 part", x.means(0, -1), NO);
    }

    private static void pairs() {
        SaidTwice x = new SaidTwice();
        fair(x, "a");
        pair(x, "a", "b", "1");
        pair(x, "who=2 or a", "who=2 and 0 or not who=2 and not a", "1");
        pair(x, "who", "a", "1");
        pair(x, "a*b*c*d*e", "a*b*c*d*e=0 or e*d*c*b*a", "1");
        due("8", x.pairs(0), 0b001011);
        due("8", x.pairs(2), 0b001011);
        pairsByWho();
        due("8 who", x.pairs(5), BAD);
        due("8 who", x.pairs(-1), BAD);
    }

    private static void pairsByWho() {
        SaidTwice x = new SaidTwice();
        pair(x, "who=2", "not who=3", "1");
        pair(x, "who", "0", "1");
        x.force(2);
        due("8 both", x.pairs(2), 0b101);
        due("8 none", x.pairs(3), 0b101);
        due("8 who 0", x.pairs(0), 0b011);
        due("8 who 4", x.pairs(4), 0b111);
    }

    private static void speaker() {
        SaidTwice x = new SaidTwice();
        due("9 kind", x.speaker(6, 0), BAD);
        due("9 kind", x.speaker(-1, 0), BAD);
        due("9 more", x.speaker(0, 10), BAD);
        due("9 more", x.speaker(0, -1), BAD);
        due("9 nobody came", x.count(0), 0);
        for (int s = 0; s < 5; s++) due("9", x.speaker(s + 1, 2 * s + 1), s);
        for (int s = 0; s < 5; s++) {
            due("9 kind", x.told(s, 0), s + 1);
            due("9 more", x.told(s, 1), 2 * s + 1);
        }
        due("9 full", x.speaker(0, 0), FULL);
        due("9 bad ahead of full", x.speaker(6, 0), BAD);
        due("9 bad ahead of full", x.speaker(0, 10), BAD);
        due("9 five", x.count(0), 5);
    }

    private static void turn() {
        SaidTwice x = new SaidTwice();
        due("10 no such speaker", x.turn(0, 0, 0), -5);
        x.speaker(EARLY, 3);
        x.speaker(LATE, 4);
        due("10", x.turn(0, HIDER, 9), EARLY);
        due("10 kind", x.told(0, 0), HIDER);
        due("10 more", x.told(0, 1), 9);
        due("10 the other one", x.told(1, 0), LATE);
        due("10 again", x.turn(0, SPEAKER, 0), HIDER);
        due("10 no such speaker", x.turn(2, 9, 9), -5);
        due("10 no such speaker", x.turn(-1, 0, 0), -5);
        due("10 kind", x.turn(0, 6, 0), -7);
        due("10 kind", x.turn(0, -1, 0), -7);
        due("10 more", x.turn(0, 0, 10), -7);
        due("10 more", x.turn(0, 0, -1), -7);
        due("10 nothing changed", x.told(0, 1), 0);
    }

    private static void told() {
        SaidTwice x = new SaidTwice();
        for (int kind = 1; kind < 6; kind++) x.speaker(kind, 9 - kind);
        for (int s = 0; s < 5; s++) {
            due("11 kind", x.told(s, 0), s + 1);
            due("11 more", x.told(s, 1), 8 - s);
            due("11 a hider", x.told(s, 2), s == 4 ? 1 : 0);
            due("11 what", x.told(s, 3), -7);
            due("11 what", x.told(s, -1), -7);
        }
        due("11 speaker", x.told(5, 9), -5);
        due("11 speaker", x.told(-1, 0), -5);
        due("11 nobody", new SaidTwice().told(0, 0), -5);
    }

    private static void say() {
        SaidTwice x = earlyOfThings();
        due("12 speaker", x.say(1, 0, 0), -5);
        due("12 speaker", x.say(-1, 0, 0), -5);
        due("12 text", x.say(0, 6, 9), -5);
        due("12 text", x.say(0, -1, 0), -5);
        due("12 turned", x.say(0, 0, 2), -7);
        due("12 turned", x.say(0, 0, -1), -7);
        due("12 nothing came", x.count(1), 0);
        for (int k = 0; k < 12; k++) due("12", x.say(0, k % 6, k % 2), k);
        due("12 full", x.say(0, 0, 0), FULL);
        due("12 -5 ahead of full", x.say(1, 0, 0), -5);
        due("12 -7 ahead of full", x.say(0, 0, 2), -7);
        due("12 twelve", x.count(1), 12);
    }

    private static void unsay() {
        SaidTwice x = earlyOfThings();
        due("13 none", x.unsay(), STATE);
        x.say(0, 1, 0);
        x.say(0, 2, 0);
        due("13", x.unsay(), 1);
        due("13 worlds", x.worlds(), A);
        due("13 the last is gone", x.said(1, 0), -5);
        due("13", x.unsay(), 0);
        due("13 none", x.unsay(), STATE);
    }

    private static void said() {
        SaidTwice x = earlyOfThings();
        x.speaker(MAD, 0);
        x.say(0, 3, 1);
        x.say(1, 5, 0);
        due("14 speaker", x.said(0, 0), 0);
        due("14 text", x.said(0, 1), 3);
        due("14 turned", x.said(0, 2), 1);
        due("14 speaker", x.said(1, 0), 1);
        due("14 text", x.said(1, 1), 5);
        due("14 turned", x.said(1, 2), 0);
        due("14 saying", x.said(2, 9), -5);
        due("14 saying", x.said(-1, 0), -5);
        due("14 what", x.said(0, 3), -7);
        due("14 what", x.said(0, -1), -7);
    }

    /** Worlds that one saying as number n leaves, the others being of nobody's matter. */
    private static long left(int kind, int more, int n, int turned) {
        SaidTwice x = new SaidTwice();
        pair(x, "a", "b", "1");
        x.speaker(SPEAKER, 0);
        x.speaker(kind, more);
        for (int k = 0; k < n; k++) x.say(0, 0, 0);
        x.say(1, 1, turned);
        return x.worlds();
    }

    private static void worlds() {
        for (int n = 0; n < 12; n++) {
            due("15 speaker", left(SPEAKER, 0, n, n % 2), A ^ B);
            due("15 early", left(EARLY, 0, n, 0), A & ~B);
            due("15 early turned", left(EARLY, 0, n, 1), B & ~A);
            due("15 late", left(LATE, 0, n, 0), B & ~A);
            due("15 late turned", left(LATE, 0, n, 1), A & ~B);
            due("15 mad", left(MAD, 0, n, n % 2), ~(A ^ B) & ALL);
            for (int more = 0; more < 10; more++) {
                boolean turns = n % (more + 2) == 0;
                due("15 turning", left(TURNING, more, n, 0), turns ? B & ~A : A & ~B);
                due("15 turning turned", left(TURNING, more, n, 1), turns ? A & ~B : B & ~A);
                due("15 hider", left(HIDER, more, n, 0), n >= more ? ~A & ALL : B & ~A);
                due("15 hider turned", left(HIDER, more, n, 1), n >= more ? ~B & ALL : A & ~B);
            }
        }
        worldsOfMany();
    }

    private static void worldsOfMany() {
        SaidTwice x = earlyOfThings();
        due("15 nothing said", x.worlds(), ALL);
        x.say(0, 1, 0);
        x.say(0, 5, 1);
        due("15 two sayings", x.worlds(), A & ~E);
        x.force(2);
        due("15 the law", x.worlds(), A & ~E & B);
        x.say(0, 1, 1);
        due("15 none", x.worlds(), 0);
        SaidTwice y = new SaidTwice();
        pair(y, "who=1 and a", "not(who=1 and a)", "1");
        y.speaker(EARLY, 0);
        y.speaker(EARLY, 0);
        y.say(1, 1, 0);
        due("15 said by who", y.worlds(), A);
        y.force(1);
        due("15 the law is nobody's", y.worlds(), 0);
        SaidTwice z = new SaidTwice();
        pair(z, "who=2 and a", "who=2 and b", "1");
        for (int s = 0; s < 3; s++) z.speaker(EARLY, 0);
        z.say(2, 1, 1);
        due("15 both said by who", z.worlds(), B & ~A);
        z.say(0, 1, 0);
        due("15 neither, said by another", z.worlds(), 0);
    }

    private static void behind() {
        SaidTwice x = earlyOfThings();
        x.say(0, 1, 0);
        x.say(0, 3, 1);
        x.say(0, 1, 1);
        int[][] due = {{32, 0, 0, 0}, {16, 1, 0, 1}, {8, 1, 4, 1}, {0, 0, 0, -1}};
        for (int n = 0; n < 4; n++) {
            for (int what = 0; what < 4; what++) due("16 behind " + n + ", " + what, x.behind(n, what), due[n][what]);
        }
        due("16 n", x.behind(4, 9), -5);
        due("16 n", x.behind(-1, 0), -5);
        due("16 what", x.behind(0, 4), -7);
        due("16 what", x.behind(3, -1), -7);
        x.force(5);
        due("16 the law", x.behind(0, 1), 16);
        due("16 the law", x.behind(2, 3), 17);
    }

    private static void cannot() {
        SaidTwice x = earlyOfThings();
        due("17 nothing said", x.cannot(), -1);
        x.say(0, 1, 0);
        x.say(0, 2, 0);
        due("17", x.cannot(), -1);
        x.say(0, 1, 1);
        x.say(0, 3, 0);
        due("17", x.cannot(), 2);
        SaidTwice y = earlyOfThings();
        SaidTwice z = new SaidTwice();
        pair(z, "0", "1", "1");
        z.force(1);
        due("17 law nowhere, nothing said", z.cannot(), -1);
        z.speaker(SPEAKER, 0);
        z.say(0, 0, 0);
        due("17 law nowhere", z.cannot(), 0);
        y.say(0, 0, 1);
        due("17 the first", y.cannot(), 0);
    }

    private static void lies() {
        SaidTwice x = earlyOfThings();
        x.say(0, 1, 0);
        x.say(0, 2, 0);
        due("18 some world fits", x.lies(), 0);
        x.say(0, 1, 1);
        due("18 either", x.lies(), 0b101);
        x.say(0, 1, 1);
        due("18 the one against two", x.lies(), 0b001);
        x.say(0, 1, 0);
        due("18 two against two", x.lies(), 0);
        SaidTwice y = earlyOfThings();
        y.say(0, 1, 0);
        y.force(1);
        due("18 the law fits", y.lies(), 0);
        y.say(0, 1, 1);
        due("18 the law is no saying", y.lies(), 0b10);
    }

    private static void least() {
        SaidTwice x = earlyOfThings();
        due("19 nothing said", x.least(0), 0);
        due("19 nothing said", x.least(1), 0);
        x.say(0, 1, 0);
        x.say(0, 1, 1);
        due("19 like ones", x.least(0), 1);
        due("19 the least as bits", x.least(1), 0b01);
        x.say(0, 1, 0);
        due("19 fewest", x.least(1), 0b10);
        x.say(0, 2, 0);
        x.say(0, 2, 1);
        due("19 two", x.least(0), 2);
        due("19 two", x.least(1), 0b01010);
        x.force(1);
        due("19 the law", x.least(1), 0b01010);
        due("19 what", x.least(2), BAD);
        due("19 what", x.least(-1), BAD);
        SaidTwice y = new SaidTwice();
        pair(y, "0", "1", "1");
        y.force(1);
        due("19 none without all", y.least(0), -1);
        due("19 none without all", y.least(1), -1);
        due("19 bad ahead of -1", y.least(2), BAD);
        SaidTwice z = earlyOfThings();
        z.say(0, 1, 1);
        z.say(0, 1, 0);
        due("19 the least as bits, whichever world is first", z.least(1), 0b01);
        leastIsAll();
        onlyWorld0();
    }

    private static SaidTwice lawOfWorld0() {
        SaidTwice x = new SaidTwice();
        pair(x, "a+b+c+d+e<1", "1", "1");
        x.force(1);
        return x;
    }

    private static void onlyWorld0() {
        SaidTwice x = lawOfWorld0();
        x.speaker(LATE, 0);
        x.speaker(MAD, 0);
        x.say(0, 0, 0);
        x.say(1, 1, 0);
        due("19 world 0", x.least(1), 0b01);
    }

    private static void leastIsAll() {
        SaidTwice x = new SaidTwice();
        x.speaker(LATE, 0);
        for (int k = 0; k < 12; k++) x.say(0, 0, 0);
        due("19 all twelve", x.least(0), 12);
        due("19 all twelve", x.least(1), 0xFFF);
        SaidTwice y = new SaidTwice();
        y.speaker(TURNING, 0);
        for (int k = 0; k < 5; k++) y.say(0, 0, 0);
        due("19 numbers stay", y.least(1), 0b10101);
    }

    private static void mad() {
        SaidTwice x = new SaidTwice();
        due("20 nobody", x.mad(0), 0);
        due("20 nobody", x.mad(1), 0);
        pair(x, "a", "a", "1");
        pair(x, "a", "not a", "1");
        for (int s = 0; s < 3; s++) x.speaker(SPEAKER, 0);
        x.say(1, 1, 0);
        due("20 how many", x.mad(0), 1);
        due("20 who", x.mad(1), 0b010);
        x.say(2, 1, 1);
        due("20 how many", x.mad(0), 2);
        due("20 who", x.mad(1), 0b110);
        x.say(2, 2, 0);
        due("20 none", x.mad(0), -1);
        due("20 none", x.mad(1), -1);
        due("20 what", x.mad(2), BAD);
        due("20 what", x.mad(-1), BAD);
        SaidTwice y = new SaidTwice();
        pair(y, "a", "b", "1");
        for (int s = 0; s < 2; s++) y.speaker(EARLY, 0);
        y.say(0, 1, 0);
        y.say(1, 1, 1);
        due("20 like ones", y.mad(0), 2);
        y.turn(0, MAD, 0);
        due("20 mad ones stay so", y.mad(1), 0b10);
    }

    private static void habit() {
        SaidTwice x = new SaidTwice();
        pair(x, "a", "b", "1");
        pair(x, "a", "a", "1");
        pair(x, "who=1", "who=0", "1");
        x.speaker(TURNING, 0);
        x.speaker(SPEAKER, 0);
        due("21 nothing said", x.habit(0, 1, 0), NO);
        due("21 nothing said", x.habit(0, 1, 1), NO);
        x.say(0, 1, 0);
        x.say(0, 1, 1);
        x.say(0, 2, 0);
        x.say(0, 1, 0);
        x.say(0, 1, 0);
        x.say(1, 1, 1);
        due("21 above", x.habit(0, 1, 0), 3);
        due("21 below", x.habit(0, 1, 1), 4);
        due("21 above in b", x.habit(0, 2, 0), 1);
        due("21 below in b", x.habit(0, 2, 1), 4);
        due("21 never the first", x.habit(1, 1, 0), 0);
        due("21 lowest terms", x.habit(1, 1, 1), 1);
        due("21 both so", x.habit(0, 3, 0), NO);
        x.say(0, 1, 1);
        x.say(0, 1, 1);
        due("21 lowest terms", x.habit(0, 1, 0), 1);
        due("21 lowest terms", x.habit(0, 1, 1), 2);
        x.say(1, 3, 0);
        due("21 said by who", x.habit(1, 0, 0), 1);
        due("21 speaker", x.habit(2, 1, 0), NO);
        due("21 speaker", x.habit(-1, 1, 0), NO);
        due("21 world", x.habit(0, 32, 0), NO);
        due("21 world", x.habit(0, -1, 0), NO);
        due("21 world", x.habit(0, 33, 0), NO);
        due("21 part", x.habit(0, 1, 2), NO);
        due("21 part", x.habit(0, 1, -1), NO);
    }

    private static void kinds() {
        SaidTwice x = oneSaying(MAD, 1);
        due("22 nothing said", x.kinds(0, 0), 63);
        x.say(0, 1, 0);
        due("22 first so, number 0", x.kinds(0, 1), 0b000011);
        due("22 second so, number 0", x.kinds(0, 2), 0b101101);
        due("22 both", x.kinds(0, 3), 0b010000);
        due("22 neither, ahead of more", x.kinds(0, 0), 0b010000);
        SaidTwice y = oneSaying(MAD, 1);
        y.speaker(EARLY, 1);
        y.say(1, 0, 0);
        y.say(0, 1, 1);
        due("22 first so, number 1", y.kinds(0, 2), 0b001011);
        due("22 second so, number 1", y.kinds(0, 1), 0b100101);
        due("22 neither, from more on", y.kinds(0, 0), 0b110000);
        due("22 another's sayings", y.kinds(1, 0), 0b000011);
        SaidTwice z = oneSaying(MAD, 1);
        z.say(0, 1, 0);
        pair(z, "0", "1", "1");
        z.force(2);
        due("22 the law does not matter", z.kinds(0, 1), 0b000011);
        z.say(0, 1, 1);
        due("22 all its sayings", z.kinds(0, 1), 0b000001);
        due("22 speaker", z.kinds(1, 0), -5);
        due("22 speaker", z.kinds(-1, 0), -5);
        due("22 world", z.kinds(0, 32), -5);
        due("22 world", z.kinds(0, -1), -5);
    }

    private static void ask() {
        SaidTwice none = new SaidTwice();
        for (int what = 0; what < 3; what++) due("23 nobody", none.ask(what), -1);
        due("23 bad ahead of -1", none.ask(3), BAD);
        due("23 bad ahead of -1", none.ask(-1), BAD);
        none.speaker(EARLY, 0);
        due("23 text 0 alone", none.ask(0), 0);
        due("23 text 0 alone", none.ask(1), 32);
        due("23 text 0 alone", none.ask(2), 1);
        SaidTwice x = earlyOfThings();
        due("23 the first of like ones", x.ask(0), 1);
        due("23 worst", x.ask(1), 16);
        due("23 costs", x.ask(2), 1);
        x.say(0, 1, 0);
        due("23 of those left", x.ask(0), 2);
        due("23 of those left", x.ask(1), 8);
        due("23 what", x.ask(3), BAD);
        SaidTwice y = new SaidTwice();
        pair(y, "a and b", "not(a and b)", "1");
        pair(y, "c", "not c", "9-2*who");
        pair(y, "d", "not d", "8-who");
        y.speaker(LATE, 0);
        y.speaker(EARLY, 0);
        due("23 least worst, then costs", y.ask(0), 12);
        due("23 costs by who", y.ask(2), 7);
        y.speaker(LATE, 0);
        due("23 the cheapest speaker", y.ask(0), 22);
        due("23 costs by who", y.ask(2), 5);
        y.force(2);
        due("23 the law", y.ask(0), 23);
        due("23 worst", y.ask(1), 8);
        askNumbers();
    }

    private static void askNumbers() {
        SaidTwice x = new SaidTwice();
        pair(x, "a", "a", "1");
        x.speaker(HIDER, 2);
        due("23 hider ahead of more", x.ask(0), 1);
        due("23 hider ahead of more", x.ask(1), 0);
        x.speaker(SPEAKER, 0);
        x.say(1, 0, 0);
        x.say(1, 0, 0);
        due("23 a speaker's", x.ask(0), 11);
        x.turn(1, EARLY, 0);
        x.turn(0, HIDER, 2);
        due("23 the other's", x.ask(0), 11);
        SaidTwice y = new SaidTwice();
        pair(y, "a", "a", "1");
        y.speaker(HIDER, 1);
        y.speaker(SPEAKER, 0);
        y.turn(1, HIDER, 1);
        y.say(0, 0, 1);
        due("23 from more on neither is said", y.ask(1), 16);
        due("23 from more on neither is said", y.ask(0), 1);
        SaidTwice z = new SaidTwice();
        pair(z, "a", "b", "0");
        z.speaker(EARLY, 0);
        z.say(0, 0, 1);
        due("23 none left: the cheapest", z.ask(0), 1);
        due("23 none left", z.ask(1), 0);
        due("23 none left", z.ask(2), 0);
    }

    private static void two() {
        SaidTwice none = new SaidTwice();
        due("24 nobody", none.two(0), -1);
        due("24 nobody", none.two(1), -1);
        due("24 bad ahead of -1", none.two(2), BAD);
        due("24 bad ahead of -1", none.two(-1), BAD);
        none.speaker(EARLY, 0);
        due("24 text 0 alone", none.two(0), 0);
        due("24 text 0 alone", none.two(1), 32);
        SaidTwice x = earlyOfThings();
        due("24 the first", x.two(0), 1);
        due("24 worst", x.two(1), 8);
        x.say(0, 1, 0);
        due("24 of those left", x.two(0), 2);
        due("24 of those left", x.two(1), 4);
        due("24 what", x.two(2), BAD);
        SaidTwice y = new SaidTwice();
        pair(y, "a and b and c", "not(a and b and c)", "0");
        pair(y, "a", "not a", "9");
        pair(y, "b", "not b", "1");
        y.speaker(EARLY, 0);
        due("24 costs do not matter", y.two(0), 2);
        due("24 worst", y.two(1), 8);
        due("24 the best of one", y.ask(0), 3);
        SaidTwice z = new SaidTwice();
        pair(z, "a", "a", "1");
        z.speaker(HIDER, 1);
        due("24 hider as number 0 and 1", z.two(0), 1);
        due("24 hider as number 0 and 1", z.two(1), 0);
        z.say(0, 0, 1);
        due("24 hider as number 1 and 2", z.two(1), 16);
        greaterOfTwo();
    }

    private static void greaterOfTwo() {
        SaidTwice x = new SaidTwice();
        pair(x, "a and b", "not(a and b)", "1");
        pair(x, "a or b", "not(a or b)", "1");
        x.speaker(EARLY, 0);
        due("24 the greater of the two", x.two(0), 1);
        due("24 the greater of the two", x.two(1), 16);
        SaidTwice y = new SaidTwice();
        pair(y, "a and b", "a or b", "1");
        y.speaker(SPEAKER, 0);
        due("24 like ones", y.two(1), 16);
        due("24 like ones: the first", y.two(0), 0);
    }

    private static void parts() {
        SaidTwice x = oneSaying(SPEAKER, 0);
        due("25 as told", x.parts(0, 1, 0), A ^ B);
        due("25 turned", x.parts(0, 1, 1), A ^ B);
        due("25 neither way", x.parts(0, 1, 2), ~(A ^ B) & ALL);
        due("25 both ways", x.parts(0, 1, 3), A ^ B);
        x.turn(0, EARLY, 0);
        due("25 as told", x.parts(0, 1, 0), A & ~B);
        due("25 turned", x.parts(0, 1, 1), B & ~A);
        due("25 neither way", x.parts(0, 1, 2), ~(A ^ B) & ALL);
        due("25 both ways", x.parts(0, 1, 3), 0);
        x.turn(0, TURNING, 0);
        due("25 as number 0", x.parts(0, 1, 0), B & ~A);
        x.say(0, 0, 1);
        due("25 as number 1", x.parts(0, 1, 0), A & ~B);
        fair(x, "c");
        x.force(2);
        due("25 of worlds that fit", x.parts(0, 1, 0), A & ~B & C);
        due("25 of worlds that fit", x.parts(0, 1, 2), ~(A ^ B) & C);
        due("25 speaker", x.parts(1, 1, 0), NO);
        due("25 speaker", x.parts(-1, 1, 0), NO);
        due("25 text", x.parts(0, 3, 0), NO);
        due("25 text", x.parts(0, -1, 0), NO);
        due("25 what", x.parts(0, 1, 4), NO);
        due("25 what", x.parts(0, 1, -1), NO);
    }

    private static void hide() {
        SaidTwice x = earlyOfThings();
        due("26 all but the thing's own", x.hide(0, 31, 0), 0b010101010001);
        due("26 turned", x.hide(0, 0, 1), 0b101010001001);
        x.say(0, 1, 0);
        due("26 sure already", x.hide(0, 31, 0), 0);
        due("26 another thing", x.hide(0, 31, 1), 0b010101000101);
        due("26 a world that does not fit the talk", x.hide(0, 30, 1), 0b010101001001);
        x.say(0, 1, 1);
        due("26 no worlds: nothing is sure", x.hide(0, 31, 0), 0b010101010101);
        due("26 speaker", x.hide(1, 0, 0), -5);
        due("26 speaker", x.hide(-1, 0, 0), -5);
        due("26 world", x.hide(0, 32, 0), -5);
        due("26 world", x.hide(0, -1, 0), -5);
        due("26 thing", x.hide(0, 0, 5), -5);
        due("26 thing", x.hide(0, 0, -1), -5);
        SaidTwice y = oneSaying(HIDER, 1);
        due("26 hider ahead of more", y.hide(0, 0, 2), 0b0010);
        y.say(0, 0, 1);
        due("26 hider from more on", y.hide(0, 0, 2), 0b1110);
        fair(y, "c");
        y.force(2);
        due("26 the law makes the thing sure", y.hide(0, 4, 2), 0);
        due("26 the law is so", y.hide(0, 4, 3), 0b101110);
        due("26 the law is not so in that world", y.hide(0, 0, 3), 0);
    }

    private static void same() {
        SaidTwice x = earlyOfThings();
        x.force(1);
        due("27 in those that fit", x.same(0, 1, 0), 1);
        due("27 in all there are", x.same(0, 1, 1), 0);
        due("27 unlike", x.same(0, 2, 0), 0);
        due("27 itself", x.same(2, 2, 1), 1);
        x.say(0, 1, 1);
        due("27 none fits", x.same(0, 2, 0), 1);
        due("27 in all there are", x.same(0, 2, 1), 0);
        due("27 text", x.same(6, 0, 9), -5);
        due("27 text", x.same(-1, 0, 0), -5);
        due("27 text", x.same(0, 6, 0), -5);
        due("27 text", x.same(0, -1, 0), -5);
        due("27 what", x.same(0, 0, 2), -7);
        due("27 what", x.same(0, 0, -1), -7);
        SaidTwice y = new SaidTwice();
        pair(y, "a", "b", "1");
        pair(y, "a=1 and who=0", "1", "1");
        due("27 once alone, who 0", y.same(1, 2, 1), 1);
    }

    private static void claims() {
        SaidTwice x = new SaidTwice();
        pair(x, "a and b", "0", "1");
        pair(x, "a", "0", "1");
        pair(x, "a or b", "0", "1");
        pair(x, "c", "0", "1");
        due("28", x.claims(0), 0b00001);
        due("28", x.claims(1), 0b01111);
        due("28", x.claims(2), 0b01101);
        due("28", x.claims(3), 0b01001);
        due("28", x.claims(4), 0b10001);
        x.force(4);
        due("28 of those that fit", x.claims(0), 0b10001);
        x.speaker(EARLY, 0);
        x.say(0, 0, 1);
        due("28 none fits", x.claims(0), 0b11111);
        due("28 text", x.claims(5), -5);
        due("28 text", x.claims(-1), -5);
    }

    private static void settle() {
        SaidTwice x = earlyOfThings();
        due("29 all five", x.settle(0), 5);
        due("29 all five", x.settle(1), 0b111110);
        x.say(0, 3, 0);
        due("29 of those that fit", x.settle(0), 4);
        due("29 of those that fit", x.settle(1), 0b110110);
        due("29 what", x.settle(2), BAD);
        due("29 what", x.settle(-1), BAD);
        SaidTwice y = new SaidTwice();
        due("29 none do", y.settle(0), -1);
        due("29 none do", y.settle(1), -1);
        due("29 bad ahead of -1", y.settle(2), BAD);
        pair(y, "a+b+c+d+e<1", "1", "1");
        y.force(1);
        due("29 one world", y.settle(0), 0);
        due("29 one world", y.settle(1), 0);
        pair(y, "b+c+d+e<1", "1", "1");
        pair(y, "b", "1", "1");
        pair(y, "a", "1", "1");
        pair(y, "not a", "1", "1");
        y.force(2);
        due("29 like ones", y.settle(0), 1);
        due("29 the least as bits", y.settle(1), 0b000010);
    }

    private static void thrice() {
        SaidTwice x = earlyOfThings();
        due("30", x.thrice(1, 2, 3), A & ~B & ~C | B & ~A & ~C | C & ~A & ~B);
        due("30 the same twice", x.thrice(1, 1, 2), B & ~A);
        due("30 the same twice", x.thrice(2, 1, 1), B & ~A);
        due("30 the same thrice", x.thrice(1, 1, 1), 0);
        due("30 with what is always so", x.thrice(0, 1, 2), ~A & ~B & ALL);
        x.force(5);
        due("30 of those that fit", x.thrice(1, 1, 2), B & ~A & E);
        due("30 text", x.thrice(6, 0, 0), NO);
        due("30 text", x.thrice(0, 6, 0), NO);
        due("30 text", x.thrice(0, 0, 6), NO);
        due("30 text", x.thrice(-1, 0, 0), NO);
        due("30 text", x.thrice(0, -1, 0), NO);
        due("30 text", x.thrice(0, 0, -1), NO);
    }

    private static void many() {
        SaidTwice x = earlyOfThings();
        int[] due = {0, 5, 1, 5, 10, 10, 5, 1};
        for (int what = 0; what < 8; what++) due("31", x.many(what), due[what]);
        x.say(0, 1, 0);
        x.say(0, 2, 0);
        x.say(0, 5, 1);
        int[] then = {2, 4, 0, 0, 1, 2, 1, 0};
        for (int what = 0; what < 8; what++) due("31 of those that fit", x.many(what), then[what]);
        due("31 what", x.many(8), BAD);
        due("31 what", x.many(-1), BAD);
        x.say(0, 1, 1);
        for (int what = 0; what < 8; what++) due("31 none fits", x.many(what), -1);
        due("31 bad ahead of -1", x.many(8), BAD);
        due("31 the most is none", lawOfWorld0().many(1), 0);
    }

    private static void judge() {
        SaidTwice x = oneSaying(TURNING, 0);
        pair(x, "0", "1", "1");
        x.force(2);
        due("32 sheet", x.judge(4, 0), BAD);
        due("32 sheet", x.judge(-1, 0), BAD);
        due("32 missing", x.judge(0, 99), -11);
        x.sheet(0, 0, 4);
        due("32 size", x.judge(0, 99), BAD);
        x.sheet(0, 0, 6);
        due("32 world", x.judge(0, 32), -5);
        due("32 world", x.judge(0, -1), -5);
        for (int sort = 0; sort < 3; sort++) {
            row(x, 1, sort, 0, 1, 1, 0, 1, 0, 0, 1, 1);
            due("32 all fit, the law does not matter", x.judge(1, 1), -1);
            due("32 the first does not fit", x.judge(1, 2), 0);
            row(x, 1, sort, 0, 1, 1, 0, 1, 1, 0, 1, 0);
            due("32 the second does not fit", x.judge(1, 1), 1);
            for (int[] bad : new int[][] {{1, 1, 0}, {-1, 1, 0}, {0, 3, 0}, {0, -1, 0}, {0, 1, 2}, {0, 1, -1}}) {
                row(x, 1, sort, 0, 1, 1, bad[0], bad[1], bad[2], 0, 1, 1);
                due("32 none such", x.judge(1, 1), 1);
            }
        }
        x.sheet(2, 1, 0);
        due("32 no rows", x.judge(2, 0), -1);
        x.say(0, 1, 0);
        row(x, 1, 2, 0, 1, 1);
        due("32 by themselves", x.judge(1, 1), -1);
        x.sheet(3, 0, 39);
        for (int n = 0; n < 13; n++) {
            x.cell(3, 3 * n + 1, 1);
            x.cell(3, 3 * n + 2, n % 2 == 0 ? 1 : 0);
        }
        due("32 thirteen rows", x.judge(3, 1), -1);
        x.cell(3, 38, 0);
        due("32 the last of thirteen", x.judge(3, 1), 12);
        x.turn(0, MAD, 0);
        for (int[] bad : new int[][] {{1, 1, 0}, {-1, 1, 0}, {0, 3, 0}, {0, -1, 0}, {0, 1, 2}, {0, 1, -1}}) {
            row(x, 1, 2, 0, 1, 0, bad[0], bad[1], bad[2]);
            due("32 none such, though a mad one could", x.judge(1, 0), 1);
        }
    }

    private static void film() {
        SaidTwice x = earlyOfThings();
        x.speaker(EARLY, 0);
        due("33 sheet", x.film(4), BAD);
        due("33 sheet", x.film(-1), BAD);
        due("33 nothing said", x.film(0), 0);
        due("33 an empty row", x.cell(0, 0, 0), -12);
        x.say(0, 1, 0);
        x.say(1, 4, 1);
        x.sheet(0, 0, 40);
        due("33", x.film(0), 2);
        due("33 three each", x.cell(0, 6, 0), -12);
        unsayAll(x);
        due("33 ints", x.sayingsBy(0, 2, 0, 2), 2);
        due("33 speaker", x.said(1, 0), 1);
        due("33 text", x.said(1, 1), 4);
        due("33 turned", x.said(1, 2), 1);
        due("33 first", x.said(0, 1), 1);
        for (int k = 2; k < 12; k++) x.say(0, 1, 0);
        due("33 twelve", x.film(3), 12);
        due("33 thirty-six", x.cell(3, 35, 0), 1);
        due("33 thirty-six", x.cell(3, 36, 0), -12);
        due("33 the talk stays", x.count(1), 12);
    }

    private static void drawn() {
        SaidTwice x = new SaidTwice();
        due("34 no question", x.drawn(0), 0);
        due("34 seed", x.drawn(-1), BAD);
        due("34 seed", x.drawn(100000), BAD);
        due("34 seed", x.drawn(99999), 0);
        due("34 world 0 alone", lawOfWorld0().drawn(5), 0);
        SaidTwice y = earlyOfThings();
        for (int seed = 0; seed < 40; seed++) due("34 halves", y.drawn(seed), 5);
        y.say(0, 2, 0);
        due("34 of those that fit", y.drawn(3), 4);
        y.say(0, 2, 1);
        due("34 none fits", y.drawn(3), -1);
        due("34 bad ahead of -1", y.drawn(-1), BAD);
        SaidTwice z = new SaidTwice();
        z.speaker(MAD, 0);
        due("34 nothing is said, six times", z.drawn(5), 6);
        drawnByLot();
    }

    /**
     * Four worlds, 28 .. 31, are lawful. The hider can say b, a as told where b is not
     * so, and turned where a is not: in world 28 both ways, so that the lots decide
     * which of two pairs of worlds is left; only one of these is parted by a.
     */
    private static void drawnByLot() {
        SaidTwice x = new SaidTwice();
        pair(x, "c*d*e", "0", "1");
        pair(x, "b", "a", "0");
        pair(x, "a", "not a", "5");
        x.force(1);
        x.speaker(HIDER, 0);
        due("34 worlds", x.worlds(), 0xF0000000L);
        due("34 the cheaper one", x.ask(0), 2);
        int[] asked = {6, 6, 2, 2, 6, 6, 2, 2, 6, 6, 2, 3, 6, 6, 2, 3, 6, 6, 2, 2, 6, 6, 2, 2, 6, 6, 2, 2, 6, 6, 2, 2, 6, 6, 2, 3, 6, 6, 2, 2};
        for (int seed = 0; seed < asked.length; seed++) due("34 drawn " + seed, x.drawn(seed), asked[seed]);
        drawnByNumbers();
    }

    private static void drawnByNumbers() {
        SaidTwice x = new SaidTwice();
        pair(x, "b*c*d*e", "0", "1");
        pair(x, "a", "a", "0");
        x.force(1);
        x.speaker(HIDER, 1);
        due("34 world 31: nothing is said", x.drawn(0), 6);
        due("34 world 30: said as number 1", x.drawn(1), 2);
        SaidTwice y = new SaidTwice();
        pair(y, "c*d*e", "0", "1");
        pair(y, "a or b", "not(a and b)", "0");
        y.force(1);
        y.speaker(LATE, 0);
        int[] asked = {1, 6, 6, 1};
        for (int seed = 0; seed < 4; seed++) due("34 as told, nothing, turned", y.drawn(seed), asked[seed]);
        SaidTwice z = earlyOfThings();
        z.force(1);
        z.say(0, 2, 0);
        z.say(0, 3, 0);
        z.say(0, 4, 0);
        z.say(0, 5, 0);
        due("34 one world is left", z.drawn(0), 0);
    }

    private static void mean() {
        SaidTwice x = earlyOfThings();
        due("35 above", x.mean(7, 10, 0), 5);
        due("35 below", x.mean(7, 10, 1), 1);
        due("35 seeds above", x.mean(99999, 10, 0), 5);
        due("35 seed", x.mean(-1, 1, 0), NO);
        due("35 seed", x.mean(100000, 1, 0), NO);
        due("35 seeds", x.mean(0, 0, 0), NO);
        due("35 seeds", x.mean(0, 11, 0), NO);
        due("35 part", x.mean(0, 1, 2), NO);
        due("35 part", x.mean(0, 1, -1), NO);
        x.say(0, 1, 0);
        x.say(0, 1, 1);
        due("35 none fits", x.mean(0, 1, 0), NO);
        due("35 nobody asks", new SaidTwice().mean(0, 10, 0), 0);
        due("35 nobody asks", new SaidTwice().mean(0, 10, 1), 1);
        SaidTwice y = new SaidTwice();
        pair(y, "a and b", "not(a and b)", "1");
        pair(y, "c and d and e", "not(c and d and e)", "1");
        pair(y, "a", "not a", "1");
        y.speaker(EARLY, 0);
        for (int seed = 0; seed < 20; seed++) {
            for (int seeds = 1; seeds <= 10; seeds++) meanOf(y, seed, seeds);
        }
    }

    private static void meanOf(SaidTwice y, int seed, int seeds) {
        long sum = 0;
        for (int i = 0; i < seeds; i++) sum += y.drawn(seed + i);
        long above = y.mean(seed, seeds, 0);
        long below = y.mean(seed, seeds, 1);
        due("35 the mean", above * seeds, sum * below);
        for (int by = 2; by <= 10; by++) due("35 lowest terms", above % by == 0 && below % by == 0 ? 1 : 0, 0);
    }

    private static void image() {
        SaidTwice x = earlyOfThings();
        due("36 nothing said", x.image(), 0);
        x.say(0, 1, 0);
        x.say(0, 2, 0);
        due("36", x.image(), 2);
        due("36 the talk stays", x.count(1), 2);
        x.unsay();
        x.unsay();
        due("36 the last image", x.back(), 2);
        due("36 it stays", x.back(), 2);
    }

    private static void back() {
        SaidTwice x = earlyOfThings();
        due("37 no image", x.back(), STATE);
        x.force(3);
        x.turn(0, HIDER, 7);
        x.say(0, 1, 0);
        x.say(0, 2, 1);
        x.image();
        x.force(4);
        x.turn(0, MAD, 1);
        x.speaker(LATE, 2);
        x.unsay();
        x.unsay();
        x.say(1, 5, 0);
        x.sheet(0, 0, 2);
        feed(x, "abc");
        due("37", x.back(), 2);
        due("37 law", x.count(3), 3);
        due("37 kind", x.told(0, 0), HIDER);
        due("37 more", x.told(0, 1), 7);
        due("37 speakers", x.count(0), 1);
        due("37 speakers that came since", x.told(1, 0), -5);
        due("37 text", x.said(0, 1), 1);
        due("37 turned", x.said(1, 2), 1);
        due("37 no third", x.said(2, 0), -5);
        due("37 sheets are not kept", x.cell(0, 1, 1), 1);
        due("37 the tape is not kept", x.count(4), 3);
        x.say(0, 5, 0);
        due("37 the image stays as it was", x.back(), 2);
        backOfTwelve();
        SaidTwice y = new SaidTwice();
        y.image();
        due("37 texts are not kept", fair(y, "a"), 1);
        y.force(1);
        due("37 back", y.back(), 0);
        due("37 texts are not kept", y.count(2), 2);
        due("37 law", y.count(3), 0);
    }

    private static void backOfTwelve() {
        SaidTwice x = earlyOfThings();
        x.speaker(EARLY, 0);
        for (int k = 0; k < 12; k++) x.say(k % 2, k % 5, k / 6);
        x.image();
        unsayAll(x);
        for (int k = 0; k < 12; k++) x.say((k + 1) % 2, 5, 1 - k / 6);
        due("37 twelve", x.back(), 12);
        for (int k = 0; k < 12; k++) {
            due("37 speaker", x.said(k, 0), k % 2);
            due("37 text", x.said(k, 1), k % 5);
            due("37 turned", x.said(k, 2), k / 6);
        }
    }

    private static void sheet() {
        SaidTwice x = new SaidTwice();
        due("38", x.sheet(0, 0, 40), 1);
        due("38 forty", x.cell(0, 39, 1), 1);
        due("38 forty", x.cell(0, 40, 1), -12);
        due("38 none", x.sheet(3, 2, 0), 1);
        due("38 there", x.cell(3, 0, 0), -12);
        due("38 sheet", x.sheet(4, 0, -1), BAD);
        due("38 sheet", x.sheet(-1, 0, 1), BAD);
        due("38 sort", x.sheet(0, 3, 1), BAD);
        due("38 sort", x.sheet(0, -2, -1), BAD);
        due("38 n", x.sheet(0, 0, 41), BAD);
        due("38 n", x.sheet(0, 0, -1), -14);
        due("38 n", x.sheet(0, 2, Integer.MIN_VALUE), -14);
        due("38 nothing changed", x.cell(0, 39, 1), 1);
        due("38 gone", x.sheet(0, -1, 41), 1);
        due("38 gone", x.cell(0, 0, 1), -11);
        due("38 gone again", x.sheet(0, -1, -41), 1);
        due("38 gone, no such sheet", x.sheet(4, -1, 0), BAD);
        SaidTwice y = earlyOfThings();
        y.speaker(MAD, 0);
        for (int s = 0; s < 4; s++) {
            y.sheet(s, 2, 40);
            for (int i = 0; i < 40; i++) y.cell(s, i, 1);
            y.sheet(s, 2, 40);
            unsayAll(y);
            due("38 all come", y.sayingsBy(s, 2, 0, 12), 12);
            for (int k = 0; k < 36; k++) due("38 all 0", y.said(k / 3, k % 3), 0);
            y.unsay();
            due("38 the last ones come", y.sayingsBy(s, 2, 37, 1), 1);
            for (int part = 0; part < 3; part++) due("38 all 0", y.said(11, part), 0);
        }
    }

    private static void cell() {
        SaidTwice x = new SaidTwice();
        due("39 sheet", x.cell(4, 0, 0), BAD);
        due("39 sheet", x.cell(-1, 0, 0), BAD);
        due("39 missing", x.cell(0, 99, 0), -11);
        x.sheet(0, 0, 3);
        due("39 place", x.cell(0, 3, 0), -12);
        due("39 place", x.cell(0, -1, 0), -12);
        x.speaker(SPEAKER, 0);
        fair(x, "a");
        int[] turned = {256 + 1, 65536 + 1, 1};
        for (int sort = 0; sort < 3; sort++) {
            row(x, 0, sort, 0, 1, 1);
            due("39", x.cell(0, 2, turned[sort]), 1);
            due("39 lowest bits", x.sayingsBy(0, sort, 0, 1), 1);
            due("39 lowest bits", x.said(sort, 2), 1);
        }
        for (int[] more : new int[][] {{1, 257}, {1, -255}, {2, 65537}, {0, 255}, {0, 128}}) {
            row(x, 0, more[0], more[1], 1, 1);
            due("39 too many bits", x.sayingsBy(0, more[0], 0, 1), 0);
        }
        row(x, 0, 1, -65536, 1, 1);
        due("39 lowest 16", x.sayingsBy(0, 1, 0, 1), 1);
        row(x, 0, 0, 65536 - 256, 1, 1);
        due("39 lowest 8", x.sayingsBy(0, 0, 0, 1), 1);
    }

    private static void copy() {
        SaidTwice x = earlyOfThings();
        row(x, 0, 2, 0, 1, 1, 0, 2, 0, 0, 3, 1);
        x.sheet(1, 2, 6);
        x.sheet(2, 1, 6);
        due("40 sheet", x.copy(4, 0, 3, 0, 1), BAD);
        due("40 sheet", x.copy(3, 0, 4, 0, 1), BAD);
        due("40 sheet", x.copy(-1, 0, 0, 0, 1), BAD);
        due("40 sheet", x.copy(0, 0, -1, 0, 1), BAD);
        due("40 missing", x.copy(3, 0, 2, 0, 99), -11);
        due("40 missing", x.copy(0, 0, 3, 0, 99), -11);
        due("40 sorts", x.copy(0, 0, 2, 0, 99), -13);
        due("40 n", x.copy(0, 0, 1, 0, -1), -12);
        due("40 n", x.copy(0, 0, 1, 0, 7), -12);
        due("40 n", x.copy(0, 0, 1, 0, Integer.MAX_VALUE), -12);
        due("40 i", x.copy(0, -1, 1, 0, 1), -12);
        due("40 i", x.copy(0, 8, 1, 0, 2), -12);
        due("40 i", x.copy(0, Integer.MAX_VALUE, 1, 0, 2), -12);
        due("40 j", x.copy(0, 0, 1, -1, 1), -12);
        due("40 j", x.copy(0, 0, 1, 6, 1), -12);
        due("40 nothing, at the ends", x.copy(0, 9, 1, 6, 0), 0);
        due("40 nothing, behind an end", x.copy(0, 10, 1, 6, 0), -12);
        due("40 nothing, behind an end", x.copy(0, 9, 1, 7, 0), -12);
        due("40 nothing, ahead", x.copy(0, -1, 1, 0, 0), -12);
        due("40", x.copy(0, 3, 1, 1, 5), 5);
        due("40 came", x.sayingsBy(1, 2, 1, 1), 1);
        due("40 came", x.said(0, 1), 2);
        copyWithin(x);
    }

    private static void copyWithin(SaidTwice x) {
        row(x, 0, 0, 0, 1, 1, 0, 2, 0, 0, 3, 1);
        due("40 upwards", x.copy(0, 0, 0, 3, 6), 6);
        due("40 as they were", x.sayingsBy(0, 0, 0, 3), 3);
        due("40 as they were", x.said(1, 1), 1);
        due("40 as they were", x.said(2, 1), 1);
        due("40 as they were", x.said(3, 1), 2);
        row(x, 0, 1, 0, 1, 1, 0, 2, 0, 0, 3, 1);
        due("40 one alone", x.copy(0, 1, 0, 3, 1), 1);
        due("40 one alone", x.copy(0, 0, 0, 3, 1), 1);
        due("40 downwards", x.copy(0, 3, 0, 0, 6), 6);
        x.sayingsBy(0, 1, 0, 3);
        due("40 as they were", x.said(4, 1), 2);
        due("40 as they were", x.said(5, 1), 3);
        due("40 as they were", x.said(6, 1), 3);
        row(x, 1, 2, 4, 5, 1, 0, 0, 0);
        due("40 the first alone", x.copy(1, 1, 1, 4, 1), 1);
        x.sayingsBy(1, 2, 3, 1);
        due("40 the first alone", x.said(7, 1), 5);
        due("40 no more than that", x.said(7, 2), 0);
    }

    private static void sayingsBy() {
        SaidTwice x = earlyOfThings();
        due("41 sheet", x.sayingsBy(4, 0, 0, 0), BAD);
        due("41 sheet", x.sayingsBy(-1, 0, 0, 0), BAD);
        due("41 sort", x.sayingsBy(0, 3, 0, 0), BAD);
        due("41 sort", x.sayingsBy(0, -1, 0, 0), BAD);
        due("41 n", x.sayingsBy(0, 0, 0, 13), BAD);
        due("41 n", x.sayingsBy(0, 0, 0, -1), BAD);
        due("41 missing", x.sayingsBy(0, 0, -1, 1), -11);
        row(x, 0, 1, 9, 0, 1, 1, 1, 1, 1, 0, 9, 0, 0, 2, 2, 0, 3, 0, 0, 4);
        due("41 sort", x.sayingsBy(0, 0, -1, 1), -13);
        due("41 none", x.sayingsBy(0, 1, 0, 0), 0);
        due("41 ahead", x.sayingsBy(0, 1, -1, 1), -12);
        due("41 behind", x.sayingsBy(0, 1, 16, 1), -12);
        due("41 far behind", x.sayingsBy(0, 1, Integer.MAX_VALUE, 12), -12);
        due("41 nothing came", x.count(1), 0);
        due("41 others are left out", x.sayingsBy(0, 1, 1, 5), 2);
        due("41 the first", x.said(0, 1), 1);
        due("41 the fifth", x.said(1, 1), 3);
        due("41 what stood ahead came", x.sayingsBy(0, 1, 13, 2), -12);
        due("41 what stood ahead came", x.count(1), 3);
        x.sheet(1, 0, 36);
        due("41 full: left out", x.sayingsBy(1, 0, 0, 12), 9);
        due("41 full", x.count(1), 12);
        due("41 full", x.sayingsBy(1, 0, 33, 1), 0);
        due("41 full, outside", x.sayingsBy(1, 0, 33, 2), -12);
    }

    private static void taken() {
        SaidTwice x = new SaidTwice();
        for (int kind = 1; kind < 6; kind++) x.speaker(kind, 0);
        x.turn(0, SPEAKER, 0);
        int[] is = {0b000001, 0b000101, 0b001011, 0b010001, 0b100101};
        for (int s = 0; s < 5; s++) {
            for (int kind = 0; kind < 6; kind++) {
                due("42 speaker " + s + " for " + kind, x.taken(12 + s, kind), (is[s] >> kind & 1) == 1 ? s : -13);
            }
            due("42 no saying", x.taken(12 + s, 6), -13);
        }
        x.turn(0, EARLY, 0);
        due("42 early", x.taken(12, 1), 0);
        due("42 early", x.taken(12, 3), -13);
        x.say(0, 0, 1);
        x.say(0, 0, 0);
        due("42 turned", x.taken(0, 6), 1);
        due("42 not", x.taken(1, 6), 0);
        due("42 no speaker", x.taken(0, 0), -13);
        due("42 nothing", x.taken(2, 6), -11);
        due("42 nothing", x.taken(11, 0), -11);
        due("42 nobody", new SaidTwice().taken(12, 0), -11);
        due("42 place", x.taken(17, 0), -12);
        due("42 place", x.taken(-1, 0), -12);
        due("42 kind", x.taken(99, 7), BAD);
        due("42 kind", x.taken(0, -1), BAD);
    }

    private static void textPromises() {
        newObject();
        count();
        feed();
        text();
        force();
        asks();
        means();
        pairs();
    }

    private static void talkPromises() {
        speaker();
        turn();
        told();
        say();
        unsay();
        said();
        worlds();
        behind();
        cannot();
        lies();
        least();
        mad();
        habit();
        kinds();
    }

    private static void questionPromises() {
        ask();
        two();
        parts();
        hide();
        same();
        claims();
        settle();
        thrice();
        many();
    }

    private static void hostPromises() {
        judge();
        film();
        drawn();
        mean();
        image();
        back();
        sheet();
        cell();
        copy();
        sayingsBy();
        taken();
    }

    public static void main(String[] arguments) {
        textPromises();
        talkPromises();
        questionPromises();
        hostPromises();
        System.out.println("promises: " + checks + " checks, " + wrong + " not as due");
        if (wrong != 0) System.exit(1);
    }
}

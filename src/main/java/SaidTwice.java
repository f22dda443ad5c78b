/**
 * Said twice, once falsely: worlds of five things, pairs in texts of a small
 * language, speakers of kinds, and a talk. The document's numbered promises
 * tell what each public method answers.
 *
 * Worlds are kept as the bits of an int, so that what fits is found by and, or
 * and not over 32 worlds at once. All rows are made with the object and used
 * again, so that no call makes anything.
 */
public final class SaidTwice {

    public static final int NONE = -1, BAD = -2, STATE = -3, FULL = -4;
    public static final long NO = -4611686018427387904L;

    private static final int NO_SUCH = -5, NO_PART = -7, FAULT = -100;
    private static final int MISSING = -11, OUTSIDE = -12, UNLIKE = -13, BELOW = -14;

    private static final int THINGS = 5, WORLDS = 32, SPEAKERS = 5, TEXTS = 6, SAYINGS = 12;
    private static final int TAPE = 160, OPEN = 5, SHEETS = 4, CELLS = 40, ROW = 3;
    private static final int MOST_MORE = 9, MOST_COST = 99, QUESTIONS = 6;
    private static final int MOST_SEED = 99999, MOST_SEEDS = 10, MOST_BYTE = 255, FED = 5;

    private static final int SPEAKER = 0, EARLY = 1, LATE = 2, TURNING = 3, MAD = 4, HIDER = 5;
    private static final int KINDS = 6, AS_SAYING = 6;

    private static final int BYTES = 0, SHORTS = 1, INTS = 2, GONE = -1;

    /**
     * Sorts of tokens. A sign's sort is its byte, so these stay below all signs; once,
     * twice, costs follow one another, so that a text's part tells its key.
     */
    private static final int END = 0, WRONG = 1, NUMBER = 2, NAME = 3, ONCE = 4, TWICE = 5;
    private static final int COSTS = 6, OR = 7, AND = 8, NOT = 9, NEGATE = 10;
    private static final int PARTS = 3;

    /** Behind the values 0 .. 4 of the names a .. e. */
    private static final int WHO = 5;

    private static final long LOT_TIMES = 48271L, LOT_MODULO = 2147483647L;

    /** Worlds, as bits, in which each thing is so. */
    private static final int[] SO_IN = {0xAAAAAAAA, 0xCCCCCCCC, 0xF0F0F0F0, 0xFF00FF00, 0xFFFF0000};

    private final Tokens tokens;
    private final Code code;
    private final Grammar grammar;
    private final Texts texts;
    private final Talk talk;
    private final Talk kept;
    private final Sheets sheets;
    private final Question best;
    private boolean hasImage;

    public SaidTwice() {
        tokens = new Tokens();
        code = new Code();
        grammar = new Grammar(tokens, code);
        texts = new Texts();
        talk = new Talk();
        kept = new Talk();
        sheets = new Sheets();
        best = new Question();
        hasImage = false;
    }

    // ---- texts

    public int count(int what) {
        switch (what) {
            case 0: return talk.speakers;
            case 1: return talk.sayings;
            case 2: return texts.size;
            case 3: return talk.law;
            case 4: return tokens.size;
            default: return BAD;
        }
    }

    public int feed(int n, int a, int b, int c, int d, int e) {
        if (n < 1 || n > FED) return BAD;
        if (!isByte(a) || !isByte(b) || !isByte(c) || !isByte(d) || !isByte(e)) return BAD;
        if (tokens.size + n > TAPE) return FULL;
        for (int i = 0; i < n; i++) {
            tokens.append(i == 0 ? a : i == 1 ? b : i == 2 ? c : i == 3 ? d : e);
        }
        return tokens.size;
    }

    public int text() {
        if (texts.size >= TEXTS) return FULL;
        boolean whole = grammar.readText();
        int fault = tokens.place;
        tokens.size = 0;
        if (!whole) return FAULT - fault;
        texts.add(code);
        return texts.size - 1;
    }

    public int force(int t) {
        if (!isText(t)) return BAD;
        int was = talk.law;
        talk.law = t;
        return was;
    }

    public int asks(int t, int w, int who, int part) {
        if (!isText(t) || !isWorld(w)) return NO_SUCH;
        if (!isBelow(who, SPEAKERS) || !isBelow(part, 3)) return NO_PART;
        if (part == 2) return texts.costOf(t, who);
        return bit(texts.side(t, who, part), w);
    }

    public long means(int t, int part) {
        if (!isText(t) || !isBelow(part, 2)) return NO;
        return bits(texts.side(t, 0, part));
    }

    public int pairs(int who) {
        if (!isBelow(who, SPEAKERS)) return BAD;
        int found = 0;
        for (int t = 0; t < texts.size; t++) {
            boolean justOne = (texts.side(t, who, 0) ^ texts.side(t, who, 1)) == -1;
            if (justOne) found |= 1 << t;
        }
        return found;
    }

    // ---- speakers, the talk

    public int speaker(int kind, int more) {
        if (!isKind(kind) || !isMore(more)) return BAD;
        if (talk.speakers >= SPEAKERS) return FULL;
        int s = talk.speakers;
        talk.become(s, kind, more);
        talk.speakers++;
        return s;
    }

    public int turn(int s, int kind, int more) {
        if (!isSpeaker(s)) return NO_SUCH;
        if (!isKind(kind) || !isMore(more)) return NO_PART;
        int was = at(talk.kindOf, s);
        talk.become(s, kind, more);
        return was;
    }

    public int told(int s, int what) {
        if (!isSpeaker(s)) return NO_SUCH;
        switch (what) {
            case 0: return at(talk.kindOf, s);
            case 1: return at(talk.moreOf, s);
            case 2: return at(talk.kindOf, s) == HIDER ? 1 : 0;
            default: return NO_PART;
        }
    }

    public int say(int s, int t, int turned) {
        if (!isSpeaker(s) || !isText(t)) return NO_SUCH;
        if (!isBelow(turned, 2)) return NO_PART;
        if (talk.sayings >= SAYINGS) return FULL;
        talk.append(s, t, turned);
        return talk.sayings - 1;
    }

    public int unsay() {
        if (talk.sayings <= 0) return STATE;
        talk.sayings--;
        return talk.sayings;
    }

    public int said(int k, int what) {
        if (!isBelow(k, talk.sayings)) return NO_SUCH;
        if (!isBelow(what, ROW)) return NO_PART;
        return talk.sayingPart(k, what);
    }

    // ---- worlds that fit

    public long worlds() {
        return bits(fitting());
    }

    public int behind(int n, int what) {
        if (n < 0 || n > talk.sayings) return NO_SUCH;
        int fit = fittingFirst(n);
        switch (what) {
            case 0: return Integer.bitCount(fit);
            case 1: return thingsSure(fit, true);
            case 2: return thingsSure(fit, false);
            case 3: return worldNumber(fit, 0);
            default: return NO_PART;
        }
    }

    public int cannot() {
        int fit = lawful();
        for (int k = 0; k < talk.sayings; k++) {
            fit &= sayable(k);
            if (fit == 0) return k;
        }
        return NONE;
    }

    public int lies() {
        if (fitting() != 0) return 0;
        int found = 0;
        for (int k = 0; k < talk.sayings; k++) {
            if (fittingWithout(k) != 0) found |= 1 << k;
        }
        return found;
    }

    public int least(int what) {
        if (!isBelow(what, 2)) return BAD;
        int law = lawful();
        if (law == 0) return NONE;
        int least = (1 << SAYINGS) - 1;
        for (int w = 0; w < WORLDS; w++) {
            // Just what does not fit w must go for w to fit, so the least is one world's.
            if (bit(law, w) == 1) least = fewer(misfits(w), least);
        }
        return what == 0 ? Integer.bitCount(least) : least;
    }

    public int mad(int what) {
        if (!isBelow(what, 2)) return BAD;
        int least = NONE;
        for (int who = 0; who < 1 << talk.speakers; who++) {
            if (fittingWereMad(who) != 0) least = least == NONE ? who : fewer(who, least);
        }
        return what == 1 || least == NONE ? least : Integer.bitCount(least);
    }

    public long habit(int s, int w, int part) {
        if (!isSpeaker(s) || !isWorld(w) || !isBelow(part, 2)) return NO;
        int all = 0;
        int first = 0;
        for (int k = 0; k < talk.sayings; k++) {
            if (talk.sayingPart(k, 0) == s) {
                int p = bit(firstSaid(k), w);
                int q = bit(secondSaid(k), w);
                if (p != q) all++;
                if (p == 1 && q == 0) first++;
            }
        }
        return inLowestTerms(first, all, part);
    }

    public int kinds(int s, int w) {
        if (!isSpeaker(s) || !isWorld(w)) return NO_SUCH;
        int found = 0;
        for (int kind = 0; kind < KINDS; kind++) {
            if (bit(allSayableWere(s, kind), w) == 1) found |= 1 << kind;
        }
        return found;
    }

    // ---- questions

    public int ask(int what) {
        if (!isBelow(what, 3)) return BAD;
        if (!findBest(fitting(), talk.sayings)) return NONE;
        if (what == 1) return best.worst;
        return what == 2 ? best.cost : 10 * best.speaker + best.text;
    }

    public int two(int what) {
        if (!isBelow(what, 2)) return BAD;
        if (talk.speakers == 0) return NONE;
        int fit = fitting();
        int first = 0;
        int least = WORLDS + 1;
        for (int s = 0; s < talk.speakers; s++) {
            for (int t = 0; t < texts.size; t++) {
                int worst = worstBehind(fit, s, t);
                if (worst < least) {
                    least = worst;
                    first = 10 * s + t;
                }
            }
        }
        return what == 0 ? first : least;
    }

    public long parts(int s, int t, int what) {
        if (!isSpeaker(s) || !isText(t)) return NO;
        int fit = fitting();
        int asTold = fit & sayableNext(s, t, 0, talk.sayings);
        int turned = fit & sayableNext(s, t, 1, talk.sayings);
        switch (what) {
            case 0: return bits(asTold);
            case 1: return bits(turned);
            case 2: return bits(fit & ~asTold & ~turned);
            case 3: return bits(asTold & turned);
            default: return NO;
        }
    }

    public int hide(int s, int w, int x) {
        if (!isSpeaker(s) || !isWorld(w) || !isBelow(x, THINGS)) return NO_SUCH;
        int law = lawful();
        int fit = fitting();
        int found = 0;
        for (int i = 0; i < 2 * texts.size; i++) {
            int said = sayableNext(s, i >> 1, i & 1, talk.sayings);
            if (bit(law & said, w) == 1 && !isSure(x, fit & said)) found |= 1 << i;
        }
        return found;
    }

    // ---- what texts mean

    public int same(int t, int u, int what) {
        if (!isText(t) || !isText(u)) return NO_SUCH;
        if (!isBelow(what, 2)) return NO_PART;
        int among = what == 0 ? fitting() : -1;
        return ((onceOf(t) ^ onceOf(u)) & among) == 0 ? 1 : 0;
    }

    public int claims(int t) {
        if (!isText(t)) return NO_SUCH;
        int so = fitting() & onceOf(t);
        int found = 0;
        for (int u = 0; u < texts.size; u++) {
            if ((so & ~onceOf(u)) == 0) found |= 1 << u;
        }
        return found;
    }

    public int settle(int what) {
        if (!isBelow(what, 2)) return BAD;
        int fit = fitting();
        int least = NONE;
        for (int some = 0; some < 1 << texts.size; some++) {
            if (settles(some, fit)) least = least == NONE ? some : fewer(some, least);
        }
        return what == 1 || least == NONE ? least : Integer.bitCount(least);
    }

    public long thrice(int t, int u, int v) {
        if (!isText(t) || !isText(u) || !isText(v)) return NO;
        int oneOrThree = onceOf(t) ^ onceOf(u) ^ onceOf(v);
        int three = onceOf(t) & onceOf(u) & onceOf(v);
        return bits(fitting() & oneOrThree & ~three);
    }

    public int many(int what) {
        if (!isBelow(what, 3 + THINGS)) return BAD;
        int fit = fitting();
        if (fit == 0) return NONE;
        int fewest = THINGS;
        int most = 0;
        int exactly = 0;
        for (int w = 0; w < WORLDS; w++) {
            if (bit(fit, w) == 1) {
                int so = Integer.bitCount(w);
                fewest = Math.min(fewest, so);
                most = Math.max(most, so);
                if (so == what - 2) exactly++;
            }
        }
        return what == 0 ? fewest : what == 1 ? most : exactly;
    }

    // ---- told talks

    public int judge(int s, int w) {
        if (!isBelow(s, SHEETS)) return BAD;
        if (sheets.isMissing(s)) return MISSING;
        int size = at(sheets.sizes, s);
        if (size % ROW != 0) return BAD;
        if (!isWorld(w)) return NO_SUCH;
        for (int n = 0; n < size / ROW; n++) {
            if (!rowFits(s, n, w)) return n;
        }
        return NONE;
    }

    public int film(int s) {
        if (!isBelow(s, SHEETS)) return BAD;
        sheets.make(s, INTS, ROW * talk.sayings);
        for (int k = 0; k < talk.sayings; k++) {
            for (int part = 0; part < ROW; part++) {
                sheets.write(s, ROW * k + part, talk.sayingPart(k, part));
            }
        }
        return talk.sayings;
    }

    // ---- strangers by lot

    public int drawn(int seed) {
        if (seed < 0 || seed > MOST_SEED) return BAD;
        int fit = fitting();
        return fit == 0 ? NONE : strangerAsks(seed, fit);
    }

    public long mean(int seed, int seeds, int part) {
        if (seed < 0 || seed > MOST_SEED) return NO;
        if (seeds < 1 || seeds > MOST_SEEDS || !isBelow(part, 2)) return NO;
        int fit = fitting();
        if (fit == 0) return NO;
        int sum = 0;
        for (int i = 0; i < seeds; i++) sum += strangerAsks(seed + i, fit);
        return inLowestTerms(sum, seeds, part);
    }

    public int image() {
        kept.becomeLike(talk);
        hasImage = true;
        return talk.sayings;
    }

    public int back() {
        if (!hasImage) return STATE;
        talk.becomeLike(kept);
        return talk.sayings;
    }

    // ---- the host

    public int sheet(int s, int sort, int n) {
        if (!isBelow(s, SHEETS) || sort < GONE || sort > INTS) return BAD;
        if (sort == GONE) {
            sheets.make(s, GONE, 0);
            return 1;
        }
        if (n > CELLS) return BAD;
        if (n < 0) return BELOW;
        sheets.make(s, sort, n);
        return 1;
    }

    public int cell(int s, int i, int v) {
        if (!isBelow(s, SHEETS)) return BAD;
        if (sheets.isMissing(s)) return MISSING;
        if (!sheets.holds(s, i)) return OUTSIDE;
        sheets.write(s, i, v);
        return 1;
    }

    public int copy(int s, int i, int other, int j, int n) {
        if (!isBelow(s, SHEETS) || !isBelow(other, SHEETS)) return BAD;
        if (sheets.isMissing(s) || sheets.isMissing(other)) return MISSING;
        if (at(sheets.sorts, s) != at(sheets.sorts, other)) return UNLIKE;
        if (!sheets.holdsRun(s, i, n) || !sheets.holdsRun(other, j, n)) return OUTSIDE;
        sheets.move(s, i, other, j, n);
        return n;
    }

    public int sayingsBy(int s, int sort, int at, int n) {
        if (!isBelow(s, SHEETS) || sort < BYTES || sort > INTS) return BAD;
        if (n < 0 || n > SAYINGS) return BAD;
        if (sheets.isMissing(s)) return MISSING;
        if (at(sheets.sorts, s) != sort) return UNLIKE;
        int came = 0;
        for (int k = 0; k < n; k++) {
            int i = at + ROW * k;
            if (!sheets.holdsRun(s, i, ROW)) return OUTSIDE;
            if (say(sheets.read(s, i), sheets.read(s, i + 1), sheets.read(s, i + 2)) >= 0) came++;
        }
        return came;
    }

    public int taken(int i, int kind) {
        if (!isBelow(kind, KINDS + 1)) return BAD;
        if (!isBelow(i, SAYINGS + SPEAKERS)) return OUTSIDE;
        return i < SAYINGS ? sayingTaken(i, kind) : speakerTaken(i - SAYINGS, kind);
    }

    // ---- what numbers are as told

    private static boolean isBelow(int number, int bound) {
        return number >= 0 && number < bound;
    }

    private static boolean isByte(int number) {
        return number >= 0 && number <= MOST_BYTE;
    }

    private static boolean isKind(int number) {
        return isBelow(number, KINDS);
    }

    private static boolean isMore(int number) {
        return number >= 0 && number <= MOST_MORE;
    }

    private static boolean isWorld(int number) {
        return isBelow(number, WORLDS);
    }

    private boolean isText(int number) {
        return isBelow(number, texts.size);
    }

    private boolean isSpeaker(int number) {
        return isBelow(number, talk.speakers);
    }

    // ---- rows and bits

    // Every index is looked at in these two, so that the machine never throws.

    private static int at(int[] row, int i) {
        return row != null && i >= 0 && i < row.length ? row[i] : 0;
    }

    private static void put(int[] row, int i, int number) {
        if (row != null && i >= 0 && i < row.length) row[i] = number;
    }

    private static int bit(int some, int i) {
        return some >>> i & 1;
    }

    /** As a long, since world 31 would make an int negative. */
    private static long bits(int some) {
        return some & 0xFFFFFFFFL;
    }

    /** NONE if there are not so many. */
    private static int worldNumber(int some, int i) {
        int ahead = 0;
        for (int w = 0; w < WORLDS; w++) {
            if (bit(some, w) == 1) {
                if (ahead == i) return w;
                ahead++;
            }
        }
        return NONE;
    }

    /** Of sets with as many bits the document wants the least as bits. */
    private static int fewer(int some, int others) {
        int less = Integer.bitCount(some) - Integer.bitCount(others);
        return less < 0 || less == 0 && some < others ? some : others;
    }

    private static long inLowestTerms(int above, int below, int part) {
        int divisor = commonDivisor(above, below);
        if (below == 0 || divisor == 0) return NO;
        return part == 0 ? above / divisor : below / divisor;
    }

    private static int commonDivisor(int one, int other) {
        int a = one;
        int b = other;
        for (int i = 0; i < 64 && b != 0; i++) {
            int rest = a % b;
            a = b;
            b = rest;
        }
        return a;
    }

    // ---- what fits

    /** P and q are the worlds in which the first and the second said are so; so is the answer. */
    private static int canSay(int kind, int more, int n, int p, int q) {
        switch (kind) {
            case EARLY: return p & ~q;
            case LATE: return q & ~p;
            case TURNING: return turnsAt(n, more) ? q & ~p : p & ~q;
            case MAD: return ~(p ^ q);
            case HIDER: return n >= more ? ~p : q & ~p;
            default: return p ^ q;
        }
    }

    private static boolean turnsAt(int n, int more) {
        int by = more + 2;
        return by > 0 && n % by == 0;
    }

    private int onceOf(int t) {
        return texts.side(t, 0, 0);
    }

    private int lawful() {
        return onceOf(talk.law);
    }

    private int firstSaid(int k) {
        return texts.side(talk.sayingPart(k, 1), talk.sayingPart(k, 0), talk.sayingPart(k, 2));
    }

    private int secondSaid(int k) {
        return texts.side(talk.sayingPart(k, 1), talk.sayingPart(k, 0), 1 - talk.sayingPart(k, 2));
    }

    // What is sayable is so whatever the law is: kinds and judge ask for just that.

    private int sayableNext(int s, int t, int turned, int n) {
        int p = texts.side(t, s, turned);
        int q = texts.side(t, s, 1 - turned);
        return canSay(at(talk.kindOf, s), at(talk.moreOf, s), n, p, q);
    }

    private int sayable(int k) {
        return sayableAs(k, at(talk.kindOf, talk.sayingPart(k, 0)));
    }

    private int sayableAs(int k, int kind) {
        int more = at(talk.moreOf, talk.sayingPart(k, 0));
        return canSay(kind, more, k, firstSaid(k), secondSaid(k));
    }

    private int allSayableWere(int s, int kind) {
        int found = -1;
        for (int k = 0; k < talk.sayings; k++) {
            if (talk.sayingPart(k, 0) == s) found &= sayableAs(k, kind);
        }
        return found;
    }

    private int fittingFirst(int n) {
        int fit = lawful();
        for (int k = 0; k < n; k++) fit &= sayable(k);
        return fit;
    }

    private int fitting() {
        return fittingFirst(talk.sayings);
    }

    private int fittingWithout(int left) {
        int fit = lawful();
        for (int k = 0; k < talk.sayings; k++) {
            if (k != left) fit &= sayable(k);
        }
        return fit;
    }

    private int fittingWereMad(int who) {
        int fit = lawful();
        for (int k = 0; k < talk.sayings; k++) {
            boolean isMad = bit(who, talk.sayingPart(k, 0)) == 1;
            fit &= isMad ? sayableAs(k, MAD) : sayable(k);
        }
        return fit;
    }

    private int misfits(int w) {
        int found = 0;
        for (int k = 0; k < talk.sayings; k++) {
            if (bit(sayable(k), w) == 0) found |= 1 << k;
        }
        return found;
    }

    private static boolean isSure(int x, int some) {
        int so = some & at(SO_IN, x);
        return some != 0 && (so == some || so == 0);
    }

    private static int thingsSure(int some, boolean inAll) {
        int found = 0;
        for (int x = 0; x < THINGS; x++) {
            boolean isIn = (some & at(SO_IN, x)) != 0;
            if (isSure(x, some) && isIn == inAll) found |= 1 << x;
        }
        return found;
    }

    // ---- questions and strangers

    /** Into best, for one object can't answer four numbers; false if there is no question. */
    private boolean findBest(int left, int n) {
        best.worst = WORLDS + 1;
        for (int s = 0; s < talk.speakers; s++) {
            for (int t = 0; t < texts.size; t++) {
                best.consider(s, t, worstOf(left, s, t, n), texts.costOf(t, s));
            }
        }
        return talk.speakers > 0;
    }

    private int worstOf(int left, int s, int t, int n) {
        int asTold = Integer.bitCount(left & sayableNext(s, t, 0, n));
        int turned = Integer.bitCount(left & sayableNext(s, t, 1, n));
        return Math.max(asTold, turned);
    }

    private int worstBehind(int fit, int s, int t) {
        int next = talk.sayings;
        int worst = 0;
        for (int turned = 0; turned < 2; turned++) {
            boolean found = findBest(fit & sayableNext(s, t, turned, next), next + 1);
            if (found) worst = Math.max(worst, best.worst);
        }
        return worst;
    }

    private int strangerAsks(int seed, int fit) {
        int many = Integer.bitCount(fit);
        if (many == 0) return NONE;
        long lot = lotBehind(seed + 1L);
        int truth = worldNumber(fit, (int) (lot % many));
        int left = fit;
        int asked = 0;
        for (int i = 0; i < QUESTIONS && Integer.bitCount(left) > 1; i++) {
            int n = talk.sayings + i;
            if (!findBest(left, n)) break;
            lot = lotBehind(lot);
            left &= answered(truth, n, lot % 2 == 0);
            asked++;
        }
        return asked;
    }

    /** All worlds if nothing is said, for then all that were left stay. */
    private int answered(int truth, int n, boolean isEven) {
        int asTold = sayableNext(best.speaker, best.text, 0, n);
        int turned = sayableNext(best.speaker, best.text, 1, n);
        boolean canTell = bit(asTold, truth) == 1;
        boolean canTurn = bit(turned, truth) == 1;
        if (canTell && (!canTurn || isEven)) return asTold;
        return canTurn ? turned : -1;
    }

    private static long lotBehind(long last) {
        return last * LOT_TIMES % LOT_MODULO;
    }

    /** Two worlds with the same mark are not parted by any of the texts. */
    private boolean settles(int some, int fit) {
        long seen = 0;
        for (int w = 0; w < WORLDS; w++) {
            if (bit(fit, w) == 1) {
                long mark = 1L << markOf(some, w);
                if ((seen & mark) != 0) return false;
                seen |= mark;
            }
        }
        return true;
    }

    private int markOf(int some, int w) {
        int mark = 0;
        for (int t = 0; t < texts.size; t++) {
            if (bit(some, t) == 1 && bit(onceOf(t), w) == 1) mark |= 1 << t;
        }
        return mark;
    }

    // ---- told talks and what is taken

    private boolean rowFits(int sheet, int n, int w) {
        int s = sheets.read(sheet, ROW * n);
        int t = sheets.read(sheet, ROW * n + 1);
        int turned = sheets.read(sheet, ROW * n + 2);
        if (!isSpeaker(s) || !isText(t) || !isBelow(turned, 2)) return false;
        return bit(sayableNext(s, t, turned, n), w) == 1;
    }

    private int sayingTaken(int k, int kind) {
        if (k >= talk.sayings) return MISSING;
        return kind == AS_SAYING ? talk.sayingPart(k, 2) : UNLIKE;
    }

    private int speakerTaken(int s, int kind) {
        if (s >= talk.speakers) return MISSING;
        return isOneOf(at(talk.kindOf, s), kind) ? s : UNLIKE;
    }

    /** Every one is a speaker, a turning one is an early one, a hider a late one. */
    private static boolean isOneOf(int kind, int other) {
        if (kind == other || other == SPEAKER) return true;
        return kind == TURNING && other == EARLY || kind == HIDER && other == LATE;
    }

    /** The tape, and the token that stands next on it. */
    private static final class Tokens {
        private final int[] tape = new int[TAPE];
        private int size;
        private int sort;
        private int value;
        private int place;
        private int after;

        private void append(int number) {
            if (size >= TAPE) return;
            put(tape, size, number);
            size++;
        }

        private void start() {
            after = 0;
            advance();
        }

        private void advance() {
            place = after;
            for (int i = 0; i < TAPE && place < size && isBlank(at(tape, place)); i++) place++;
            value = 0;
            if (place >= size) {
                after = place;
                sort = END;
            } else if (isLetter(at(tape, place))) {
                readWord();
            } else if (isDigit(at(tape, place))) {
                readNumber();
            } else {
                after = place + 1;
                sort = isSign(at(tape, place)) ? at(tape, place) : WRONG;
            }
        }

        private void readWord() {
            after = place;
            for (int i = 0; i < TAPE && after < size && isLetter(at(tape, after)); i++) after++;
            int letter = at(tape, place) - 'a';
            boolean isThing = after - place == 1 && letter < THINGS;
            value = isThing ? letter : WHO;
            if (isThing || spells("who")) sort = NAME;
            else if (spells("once")) sort = ONCE;
            else if (spells("twice")) sort = TWICE;
            else if (spells("costs")) sort = COSTS;
            else if (spells("or")) sort = OR;
            else if (spells("and")) sort = AND;
            else sort = spells("not") ? NOT : WRONG;
        }

        private boolean spells(String word) {
            if (word == null || word.length() != after - place) return false;
            for (int i = 0; i < word.length(); i++) {
                if (word.charAt(i) != at(tape, place + i)) return false;
            }
            return true;
        }

        private void readNumber() {
            after = place;
            for (int i = 0; i < TAPE && after < size && isDigit(at(tape, after)); i++) {
                value = value * 10 + at(tape, after) - '0';
                after++;
            }
            sort = after - place > 4 ? WRONG : NUMBER;
        }

        private static boolean isBlank(int number) {
            return number == 32 || number == 10;
        }

        private static boolean isLetter(int number) {
            return number >= 'a' && number <= 'z';
        }

        private static boolean isDigit(int number) {
            return number >= '0' && number <= '9';
        }

        private static boolean isSign(int number) {
            switch (number) {
                case '(': case ')': case ';': case '+': case '-': case '*': case '<': case '=':
                    return true;
                default:
                    return false;
            }
        }
    }

    /** A text as steps over a stack: a token's sort and its value each, in three parts. */
    private static final class Code {
        private final int[] sorts = new int[TAPE];
        private final int[] values = new int[TAPE];
        private final int[] starts = new int[ROW + 1];
        private final int[] stack = new int[TAPE];
        private int size;
        private int height;

        private void clear() {
            size = 0;
        }

        private void add(int sort, int value) {
            if (size >= TAPE) return;
            put(sorts, size, sort);
            put(values, size, value);
            size++;
        }

        /** The next part starts where this one ends. */
        private void endPart(int part) {
            put(starts, part + 1, size);
        }

        private int truths(int part, int who) {
            int found = 0;
            for (int w = 0; w < WORLDS; w++) {
                if (valueOf(part, w, who) != 0) found |= 1 << w;
            }
            return found;
        }

        private int valueOf(int part, int w, int who) {
            height = 0;
            int end = at(starts, part + 1);
            for (int i = at(starts, part); i < end; i++) {
                step(at(sorts, i), at(values, i), w, who);
            }
            return pop();
        }

        private void step(int sort, int value, int w, int who) {
            switch (sort) {
                case NUMBER:
                    push(value);
                    break;
                case NAME:
                    push(value == WHO ? who : bit(w, value));
                    break;
                case NEGATE:
                    push(-pop());
                    break;
                case NOT:
                    push(pop() == 0 ? 1 : 0);
                    break;
                default:
                    int right = pop();
                    push(joined(sort, pop(), right));
            }
        }

        private static int joined(int sort, int left, int right) {
            switch (sort) {
                case '+': return left + right;
                case '-': return left - right;
                case '*': return left * right;
                case '<': return left < right ? 1 : 0;
                case '=': return left == right ? 1 : 0;
                case AND: return left != 0 && right != 0 ? 1 : 0;
                default: return left != 0 || right != 0 ? 1 : 0;
            }
        }

        private void push(int number) {
            if (height >= TAPE) return;
            put(stack, height, number);
            height++;
        }

        private int pop() {
            if (height <= 0) return 0;
            height--;
            return at(stack, height);
        }
    }

    /**
     * Reads a text from the tokens into code. Each method reads one rule of the
     * grammar and answers false as soon as the token that stands next can't stand
     * there; then it is left standing, so that its place is the fault's. OPEN
     * brackets, nots and minuses are told along and bound the recursion.
     */
    private static final class Grammar {
        private final Tokens tokens;
        private final Code code;

        private Grammar(Tokens tokens, Code code) {
            this.tokens = tokens;
            this.code = code;
        }

        private boolean readText() {
            tokens.start();
            code.clear();
            for (int part = 0; part < PARTS; part++) {
                if (!readToken(ONCE + part) || !readOr(0)) return false;
                code.endPart(part);
                if (!readToken(';')) return false;
            }
            return tokens.sort == END;
        }

        private boolean readToken(int sort) {
            if (tokens.sort != sort) return false;
            tokens.advance();
            return true;
        }

        private boolean readOr(int open) {
            if (!readAnd(open)) return false;
            for (int i = 0; i < TAPE && tokens.sort == OR; i++) {
                tokens.advance();
                if (!readAnd(open)) return false;
                code.add(OR, 0);
            }
            return true;
        }

        private boolean readAnd(int open) {
            if (!readNot(open)) return false;
            for (int i = 0; i < TAPE && tokens.sort == AND; i++) {
                tokens.advance();
                if (!readNot(open)) return false;
                code.add(AND, 0);
            }
            return true;
        }

        private boolean readNot(int open) {
            if (tokens.sort != NOT) return readCompared(open);
            if (open >= OPEN) return false;
            tokens.advance();
            if (!readNot(open + 1)) return false;
            code.add(NOT, 0);
            return true;
        }

        private boolean readCompared(int open) {
            if (!readSum(open)) return false;
            int sign = tokens.sort;
            if (sign != '<' && sign != '=') return true;
            tokens.advance();
            if (!readSum(open)) return false;
            code.add(sign, 0);
            return true;
        }

        private boolean readSum(int open) {
            if (!readTerm(open)) return false;
            for (int i = 0; i < TAPE && (tokens.sort == '+' || tokens.sort == '-'); i++) {
                int sign = tokens.sort;
                tokens.advance();
                if (!readTerm(open)) return false;
                code.add(sign, 0);
            }
            return true;
        }

        private boolean readTerm(int open) {
            if (!readOne(open)) return false;
            for (int i = 0; i < TAPE && tokens.sort == '*'; i++) {
                tokens.advance();
                if (!readOne(open)) return false;
                code.add('*', 0);
            }
            return true;
        }

        private boolean readOne(int open) {
            if (tokens.sort == NUMBER || tokens.sort == NAME) {
                code.add(tokens.sort, tokens.value);
                tokens.advance();
                return true;
            }
            if (tokens.sort != '-' && tokens.sort != '(') return false;
            if (open >= OPEN) return false;
            boolean isBracket = tokens.sort == '(';
            tokens.advance();
            if (isBracket) return readBracket(open + 1);
            if (!readOne(open + 1)) return false;
            code.add(NEGATE, 0);
            return true;
        }

        private boolean readBracket(int open) {
            if (!readOr(open) || tokens.sort != ')') return false;
            tokens.advance();
            return true;
        }
    }

    /** What each text says and costs, for each who that may say it. */
    private static final class Texts {
        private final int[] once = new int[TEXTS * SPEAKERS];
        private final int[] twice = new int[TEXTS * SPEAKERS];
        private final int[] costs = new int[TEXTS * SPEAKERS];
        private int size;

        private Texts() {
            for (int who = 0; who < SPEAKERS; who++) {
                put(once, who, -1);
                put(costs, who, 1);
            }
            size = 1;
        }

        private void add(Code code) {
            if (size >= TEXTS) return;
            for (int who = 0; who < SPEAKERS; who++) {
                int i = size * SPEAKERS + who;
                put(once, i, code.truths(0, who));
                put(twice, i, code.truths(1, who));
                put(costs, i, Math.max(0, Math.min(MOST_COST, code.valueOf(2, 0, who))));
            }
            size++;
        }

        /** Which is 0 for ONCE, 1 for TWICE: as turned, the first said is side 1. */
        private int side(int t, int who, int which) {
            return at(which == 0 ? once : twice, t * SPEAKERS + who);
        }

        private int costOf(int t, int who) {
            return at(costs, t * SPEAKERS + who);
        }
    }

    /** What an image keeps: speakers, sayings, the law. */
    private static final class Talk {
        private final int[] kindOf = new int[SPEAKERS];
        private final int[] moreOf = new int[SPEAKERS];
        private final int[] rows = new int[ROW * SAYINGS];
        private int speakers;
        private int sayings;
        private int law;

        private void become(int s, int kind, int more) {
            put(kindOf, s, kind);
            put(moreOf, s, more);
        }

        private void append(int s, int t, int turned) {
            if (sayings >= SAYINGS) return;
            put(rows, ROW * sayings, s);
            put(rows, ROW * sayings + 1, t);
            put(rows, ROW * sayings + 2, turned);
            sayings++;
        }

        private int sayingPart(int k, int part) {
            return at(rows, ROW * k + part);
        }

        private void becomeLike(Talk other) {
            if (other == null) return;
            for (int s = 0; s < SPEAKERS; s++) {
                become(s, at(other.kindOf, s), at(other.moreOf, s));
            }
            for (int i = 0; i < ROW * SAYINGS; i++) put(rows, i, at(other.rows, i));
            speakers = other.speakers;
            sayings = other.sayings;
            law = other.law;
        }
    }

    /** The best of the questions that were considered since worst was set. */
    private static final class Question {
        private int speaker;
        private int text;
        private int worst;
        private int cost;

        /** Of like ones the first stays, so they must come in order. */
        private void consider(int s, int t, int itsWorst, int itsCost) {
            boolean better = itsWorst < worst || itsWorst == worst && itsCost < cost;
            if (!better) return;
            speaker = s;
            text = t;
            worst = itsWorst;
            cost = itsCost;
        }
    }

    /** The host's sheets, one behind the other in one row. */
    private static final class Sheets {
        private final int[] sorts = new int[SHEETS];
        private final int[] sizes = new int[SHEETS];
        private final int[] cells = new int[SHEETS * CELLS];
        private final int[] moved = new int[CELLS];

        private Sheets() {
            for (int s = 0; s < SHEETS; s++) put(sorts, s, GONE);
        }

        private boolean isMissing(int s) {
            return at(sorts, s) == GONE;
        }

        private void make(int s, int sort, int size) {
            put(sorts, s, sort);
            put(sizes, s, size);
            for (int i = 0; i < CELLS; i++) put(cells, s * CELLS + i, 0);
        }

        private boolean holds(int s, int i) {
            return isBelow(i, at(sizes, s));
        }

        /** No sum of i and n, for that could wrap around. */
        private boolean holdsRun(int s, int i, int n) {
            return n >= 0 && i >= 0 && n <= at(sizes, s) && i <= at(sizes, s) - n;
        }

        private int read(int s, int i) {
            return at(cells, s * CELLS + i);
        }

        private void write(int s, int i, int number) {
            int sort = at(sorts, s);
            int kept = sort == BYTES ? (byte) number : sort == SHORTS ? (short) number : number;
            put(cells, s * CELLS + i, kept);
        }

        private void move(int s, int i, int other, int j, int n) {
            for (int k = 0; k < n; k++) put(moved, k, read(s, i + k));
            for (int k = 0; k < n; k++) write(other, j + k, at(moved, k));
        }
    }
}

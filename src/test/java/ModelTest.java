import java.util.ArrayList;
import java.util.Arrays;
import java.util.List;

/**
 * Runs of calls by lot on a new object and on a model that is written a second
 * time from the document: world by world, texts as trees, no bits in common.
 */
public final class ModelTest {

    private static final long NO = SaidTwice.NO;

    /** A fault of a text, at a place. */
    private static final class Fault extends Exception {
        private static final long serialVersionUID = 1L;
        final int place;

        Fault(int place) {
            this.place = place;
        }
    }

    private static final class Tree {
        final String op;
        final int number;
        final Tree left;
        final Tree right;

        Tree(String op, int number, Tree left, Tree right) {
            this.op = op;
            this.number = number;
            this.left = left;
            this.right = right;
        }

        int value(int w, int who) {
            int a = left == null ? 0 : left.value(w, who);
            int b = right == null ? 0 : right.value(w, who);
            switch (op) {
                case "number": return number;
                case "who": return who;
                case "a": case "b": case "c": case "d": case "e": return (w & 1 << op.charAt(0) - 'a') != 0 ? 1 : 0;
                case "negative": return -a;
                case "not": return a == 0 ? 1 : 0;
                case "*": return a * b;
                case "+": return a + b;
                case "-": return a - b;
                case "<": return a < b ? 1 : 0;
                case "=": return a == b ? 1 : 0;
                case "and": return a != 0 && b != 0 ? 1 : 0;
                case "or": return a != 0 || b != 0 ? 1 : 0;
                default: throw new IllegalStateException(op);
            }
        }
    }

    /** A text's trees. */
    private static final class Reading {
        static final List<String> WORDS = List.of("once", "twice", "costs", "or", "and", "not", "a", "b", "c", "d", "e", "who");
        static final List<String> NAMES = List.of("a", "b", "c", "d", "e", "who");
        final String tape;
        int next = 0;
        int open = 0;

        Reading(String tape) {
            this.tape = tape;
        }

        int place() {
            int i = next;
            while (i < tape.length() && (tape.charAt(i) == ' ' || tape.charAt(i) == '\n')) i++;
            return i;
        }

        /** The token that stands next, "" at the end, "?" for one that can stand nowhere. */
        String peek() {
            String rest = tape.substring(place());
            if (rest.isEmpty()) return "";
            String word = rest.replaceFirst("(?s)[^a-z].*", "");
            if (!word.isEmpty()) return WORDS.contains(word) ? word : "?";
            String number = rest.replaceFirst("(?s)[^0-9].*", "");
            if (!number.isEmpty()) return number.length() > 4 ? "?" : number;
            String sign = rest.substring(0, 1);
            return "();+-*<=".contains(sign) ? sign : "?";
        }

        String take() {
            String token = peek();
            next = place() + token.length();
            return token;
        }

        void want(String token) throws Fault {
            if (!peek().equals(token)) throw new Fault(place());
            take();
        }

        Tree part(String key) throws Fault {
            want(key);
            Tree tree = or();
            want(";");
            return tree;
        }

        void openOne() throws Fault {
            if (open == 5) throw new Fault(place());
            open++;
            take();
        }

        Tree or() throws Fault {
            Tree tree = and();
            while (peek().equals("or")) tree = new Tree(take(), 0, tree, and());
            return tree;
        }

        Tree and() throws Fault {
            Tree tree = not();
            while (peek().equals("and")) tree = new Tree(take(), 0, tree, not());
            return tree;
        }

        Tree not() throws Fault {
            if (peek().equals("not")) {
                openOne();
                Tree tree = new Tree("not", 0, not(), null);
                open--;
                return tree;
            }
            Tree tree = sum();
            if (peek().equals("<") || peek().equals("=")) tree = new Tree(take(), 0, tree, sum());
            return tree;
        }

        Tree sum() throws Fault {
            Tree tree = term();
            while (peek().equals("+") || peek().equals("-")) tree = new Tree(take(), 0, tree, term());
            return tree;
        }

        Tree term() throws Fault {
            Tree tree = one();
            while (peek().equals("*")) tree = new Tree(take(), 0, tree, one());
            return tree;
        }

        Tree one() throws Fault {
            String token = peek();
            if (token.matches("[0-9]+")) return new Tree("number", Integer.parseInt(take()), null, null);
            if (NAMES.contains(token)) return new Tree(take(), 0, null, null);
            if (token.equals("-")) {
                openOne();
                Tree tree = new Tree("negative", 0, one(), null);
                open--;
                return tree;
            }
            if (token.equals("(")) {
                openOne();
                Tree tree = or();
                want(")");
                open--;
                return tree;
            }
            throw new Fault(place());
        }
    }

    private static final class Model {
        List<Tree[]> texts = new ArrayList<>();
        StringBuilder tape = new StringBuilder();
        List<int[]> speakers = new ArrayList<>();
        List<int[]> talk = new ArrayList<>();
        int law = 0;
        List<int[]> keptSpeakers = null;
        List<int[]> keptTalk = null;
        int keptLaw;
        Object[] sheets = new Object[4];

        Model() {
            Tree one = new Tree("number", 1, null, null);
            texts.add(new Tree[] {one, new Tree("number", 0, null, null), one});
        }

        boolean is(int t, int part, int w, int who) {
            return texts.get(t)[part].value(w, who) != 0;
        }

        int cost(int t, int who) {
            return Math.min(99, Math.max(0, texts.get(t)[2].value(0, who)));
        }

        static boolean canSay(int kind, int more, int n, boolean p, boolean q) {
            boolean speaker = p != q;
            if (kind == 0) return speaker;
            if (kind == 1) return speaker && p;
            if (kind == 2) return speaker && q;
            if (kind == 3) return speaker && (n % (more + 2) == 0 ? q : p);
            if (kind == 4) return !speaker;
            return speaker && q || !p && !q && n >= more;
        }

        boolean canSayAs(int kind, int s, int t, int turned, int n, int w) {
            boolean once = is(t, 0, w, s);
            boolean twice = is(t, 1, w, s);
            return canSay(kind, speakers.get(s)[1], n, turned == 1 ? twice : once, turned == 1 ? once : twice);
        }

        boolean canSay(int s, int t, int turned, int n, int w) {
            return canSayAs(speakers.get(s)[0], s, t, turned, n, w);
        }

        boolean lawful(int w) {
            return is(law, 0, w, 0);
        }

        boolean sayingFits(int k, int w) {
            int[] row = talk.get(k);
            return canSay(row[0], row[1], row[2], k, w);
        }

        List<Integer> fit(int n) {
            List<Integer> found = new ArrayList<>();
            for (int w = 0; w < 32; w++) {
                boolean all = lawful(w);
                for (int k = 0; k < n; k++) all = all && sayingFits(k, w);
                if (all) found.add(w);
            }
            return found;
        }

        List<Integer> fit() {
            return fit(talk.size());
        }

        static long bits(List<Integer> some) {
            long found = 0;
            for (int i : some) found += 1L << i;
            return found;
        }

        boolean noText(int t) {
            return t < 0 || t >= texts.size();
        }

        boolean noSpeaker(int s) {
            return s < 0 || s >= speakers.size();
        }

        static boolean out(int number, int low, int high) {
            return number < low || number > high;
        }

        long count(int what) {
            if (out(what, 0, 4)) return -2;
            return new int[] {speakers.size(), talk.size(), texts.size(), law, tape.length()}[what];
        }

        long feed(int n, int... bytes) {
            if (out(n, 1, 5)) return -2;
            for (int b : bytes) if (out(b, 0, 255)) return -2;
            if (tape.length() + n > 160) return -4;
            for (int i = 0; i < n; i++) tape.append((char) bytes[i]);
            return tape.length();
        }

        long text() {
            if (texts.size() == 6) return -4;
            Reading reading = new Reading(tape.toString());
            tape.setLength(0);
            try {
                Tree[] text = {reading.part("once"), reading.part("twice"), reading.part("costs")};
                reading.want("");
                texts.add(text);
                return texts.size() - 1;
            } catch (Fault fault) {
                return -100 - fault.place;
            }
        }

        long force(int t) {
            if (noText(t)) return -2;
            int was = law;
            law = t;
            return was;
        }

        long asks(int t, int w, int who, int part) {
            if (noText(t) || out(w, 0, 31)) return -5;
            if (out(who, 0, 4) || out(part, 0, 2)) return -7;
            return part == 2 ? cost(t, who) : is(t, part, w, who) ? 1 : 0;
        }

        long means(int t, int part) {
            if (noText(t) || out(part, 0, 1)) return NO;
            long found = 0;
            for (int w = 0; w < 32; w++) if (is(t, part, w, 0)) found += 1L << w;
            return found;
        }

        long pairs(int who) {
            if (out(who, 0, 4)) return -2;
            List<Integer> found = new ArrayList<>();
            for (int t = 0; t < texts.size(); t++) {
                boolean all = true;
                for (int w = 0; w < 32; w++) all &= is(t, 0, w, who) != is(t, 1, w, who);
                if (all) found.add(t);
            }
            return bits(found);
        }

        long speaker(int kind, int more) {
            if (out(kind, 0, 5) || out(more, 0, 9)) return -2;
            if (speakers.size() == 5) return -4;
            speakers.add(new int[] {kind, more});
            return speakers.size() - 1;
        }

        long turn(int s, int kind, int more) {
            if (noSpeaker(s)) return -5;
            if (out(kind, 0, 5) || out(more, 0, 9)) return -7;
            return speakers.set(s, new int[] {kind, more})[0];
        }

        long told(int s, int what) {
            if (noSpeaker(s)) return -5;
            if (out(what, 0, 2)) return -7;
            return what == 2 ? (speakers.get(s)[0] == 5 ? 1 : 0) : speakers.get(s)[what];
        }

        long say(int s, int t, int turned) {
            if (noSpeaker(s) || noText(t)) return -5;
            if (out(turned, 0, 1)) return -7;
            if (talk.size() == 12) return -4;
            talk.add(new int[] {s, t, turned});
            return talk.size() - 1;
        }

        long unsay() {
            if (talk.isEmpty()) return -3;
            talk.remove(talk.size() - 1);
            return talk.size();
        }

        long said(int k, int what) {
            if (k < 0 || k >= talk.size()) return -5;
            return out(what, 0, 2) ? -7 : talk.get(k)[what];
        }

        long behind(int n, int what) {
            if (out(n, 0, talk.size())) return -5;
            if (out(what, 0, 3)) return -7;
            List<Integer> fit = fit(n);
            if (what == 0) return fit.size();
            if (fit.isEmpty()) return what == 3 ? -1 : 0;
            if (what == 3) return fit.get(0);
            int all = 31;
            int none = 31;
            for (int w : fit) {
                all &= w;
                none &= ~w;
            }
            return what == 1 ? all : none;
        }

        long cannot() {
            for (int k = 0; k < talk.size(); k++) if (fit(k + 1).isEmpty()) return k;
            return -1;
        }

        boolean anyFitsWithout(int without) {
            for (int w = 0; w < 32; w++) {
                boolean all = lawful(w);
                for (int k = 0; k < talk.size(); k++) all &= (without & 1 << k) != 0 || sayingFits(k, w);
                if (all) return true;
            }
            return false;
        }

        long lies() {
            if (!fit().isEmpty()) return 0;
            long found = 0;
            for (int k = 0; k < talk.size(); k++) if (anyFitsWithout(1 << k)) found += 1 << k;
            return found;
        }

        static long fewest(List<Integer> sets, int what) {
            int best = -1;
            for (int set : sets) if (best < 0 || Integer.bitCount(set) < Integer.bitCount(best)) best = set;
            return best < 0 || what == 1 ? best : Integer.bitCount(best);
        }

        long least(int what) {
            if (out(what, 0, 1)) return -2;
            List<Integer> sets = new ArrayList<>();
            for (int set = 0; set < 1 << talk.size(); set++) if (anyFitsWithout(set)) sets.add(set);
            return fewest(sets, what);
        }

        long mad(int what) {
            if (out(what, 0, 1)) return -2;
            List<int[]> were = speakers;
            List<Integer> sets = new ArrayList<>();
            for (int set = 0; set < 1 << were.size(); set++) {
                speakers = new ArrayList<>();
                for (int s = 0; s < were.size(); s++) {
                    speakers.add(new int[] {(set & 1 << s) != 0 ? 4 : were.get(s)[0], were.get(s)[1]});
                }
                if (!fit().isEmpty()) sets.add(set);
            }
            speakers = were;
            return fewest(sets, what);
        }

        static long lowest(int above, int below, int part) {
            int by = 1;
            for (int i = 1; i <= below; i++) if (above % i == 0 && below % i == 0) by = i;
            return part == 0 ? above / by : below / by;
        }

        long habit(int s, int w, int part) {
            if (noSpeaker(s) || out(w, 0, 31) || out(part, 0, 1)) return NO;
            int all = 0;
            int first = 0;
            for (int[] row : talk) {
                boolean once = is(row[1], 0, w, s);
                if (row[0] == s && once != is(row[1], 1, w, s)) {
                    all++;
                    if (once == (row[2] == 0)) first++;
                }
            }
            return all == 0 ? NO : lowest(first, all, part);
        }

        long kinds(int s, int w) {
            if (noSpeaker(s) || out(w, 0, 31)) return -5;
            long found = 0;
            for (int kind = 0; kind < 6; kind++) {
                boolean all = true;
                for (int k = 0; k < talk.size(); k++) {
                    int[] row = talk.get(k);
                    if (row[0] == s) all &= canSayAs(kind, s, row[1], row[2], k, w);
                }
                if (all) found += 1 << kind;
            }
            return found;
        }

        List<Integer> answering(List<Integer> left, int s, int t, int turned, int n) {
            List<Integer> found = new ArrayList<>();
            for (int w : left) if (canSay(s, t, turned, n, w)) found.add(w);
            return found;
        }

        /** Speaker, text, worst, cost of the best question; null if there is none. */
        int[] best(List<Integer> left, int n) {
            List<int[]> all = new ArrayList<>();
            for (int s = 0; s < speakers.size(); s++) {
                for (int t = 0; t < texts.size(); t++) {
                    int told = answering(left, s, t, 0, n).size();
                    int turned = answering(left, s, t, 1, n).size();
                    all.add(new int[] {s, t, Math.max(told, turned), cost(t, s)});
                }
            }
            all.sort((x, y) -> x[2] != y[2] ? x[2] - y[2] : x[3] - y[3]);
            return all.isEmpty() ? null : all.get(0);
        }

        long ask(int what) {
            if (out(what, 0, 2)) return -2;
            int[] best = best(fit(), talk.size());
            if (best == null) return -1;
            return new int[] {10 * best[0] + best[1], best[2], best[3]}[what];
        }

        long two(int what) {
            if (out(what, 0, 1)) return -2;
            int[] found = null;
            int n = talk.size();
            for (int s = 0; s < speakers.size(); s++) {
                for (int t = 0; t < texts.size(); t++) {
                    int told = best(answering(fit(), s, t, 0, n), n + 1)[2];
                    int turned = best(answering(fit(), s, t, 1, n), n + 1)[2];
                    int worst = Math.max(told, turned);
                    if (found == null || worst < found[1]) found = new int[] {10 * s + t, worst};
                }
            }
            return found == null ? -1 : found[what];
        }

        long parts(int s, int t, int what) {
            if (noSpeaker(s) || noText(t) || out(what, 0, 3)) return NO;
            List<Integer> told = answering(fit(), s, t, 0, talk.size());
            List<Integer> turned = answering(fit(), s, t, 1, talk.size());
            List<Integer> found = new ArrayList<>();
            for (int w : fit()) {
                boolean is = what == 0 ? told.contains(w) : what == 1 ? turned.contains(w)
                    : what == 2 ? !told.contains(w) && !turned.contains(w) : told.contains(w) && turned.contains(w);
                if (is) found.add(w);
            }
            return bits(found);
        }

        long hide(int s, int w, int x) {
            if (noSpeaker(s) || out(w, 0, 31) || out(x, 0, 4)) return -5;
            long found = 0;
            for (int t = 0; t < texts.size(); t++) {
                for (int turned = 0; turned < 2; turned++) {
                    List<Integer> then = answering(fit(), s, t, turned, talk.size());
                    int so = 0;
                    for (int v : then) so += v >> x & 1;
                    boolean sure = !then.isEmpty() && (so == 0 || so == then.size());
                    if (lawful(w) && canSay(s, t, turned, talk.size(), w) && !sure) found += 1 << 2 * t + turned;
                }
            }
            return found;
        }

        long same(int t, int u, int what) {
            if (noText(t) || noText(u)) return -5;
            if (out(what, 0, 1)) return -7;
            for (int w = 0; w < 32; w++) {
                boolean counts = what == 1 || fit().contains(w);
                if (counts && is(t, 0, w, 0) != is(u, 0, w, 0)) return 0;
            }
            return 1;
        }

        long claims(int t) {
            if (noText(t)) return -5;
            long found = 0;
            for (int u = 0; u < texts.size(); u++) {
                boolean all = true;
                for (int w : fit()) all &= !is(t, 0, w, 0) || is(u, 0, w, 0);
                if (all) found += 1 << u;
            }
            return found;
        }

        long settle(int what) {
            if (out(what, 0, 1)) return -2;
            List<Integer> fit = fit();
            List<Integer> sets = new ArrayList<>();
            for (int set = 0; set < 1 << texts.size(); set++) {
                boolean all = true;
                for (int v : fit) {
                    for (int w : fit) {
                        boolean parted = v == w;
                        for (int t = 0; t < texts.size(); t++) {
                            parted |= (set & 1 << t) != 0 && is(t, 0, v, 0) != is(t, 0, w, 0);
                        }
                        all &= parted;
                    }
                }
                if (all) sets.add(set);
            }
            return fewest(sets, what);
        }

        long thrice(int t, int u, int v) {
            if (noText(t) || noText(u) || noText(v)) return NO;
            List<Integer> found = new ArrayList<>();
            for (int w : fit()) {
                int so = 0;
                for (int text : new int[] {t, u, v}) so += is(text, 0, w, 0) ? 1 : 0;
                if (so == 1) found.add(w);
            }
            return bits(found);
        }

        long many(int what) {
            if (out(what, 0, 7)) return -2;
            int[] counts = new int[6];
            for (int w : fit()) counts[Integer.bitCount(w)]++;
            if (fit().isEmpty()) return -1;
            if (what >= 2) return counts[what - 2];
            int k = what == 0 ? 0 : 5;
            while (counts[k] == 0) k += what == 0 ? 1 : -1;
            return k;
        }

        int size(int s) {
            Object row = sheets[s];
            return row instanceof byte[] ? ((byte[]) row).length
                : row instanceof short[] ? ((short[]) row).length : ((int[]) row).length;
        }

        int read(int s, int i) {
            Object row = sheets[s];
            return row instanceof byte[] ? ((byte[]) row)[i] : row instanceof short[] ? ((short[]) row)[i] : ((int[]) row)[i];
        }

        void write(int s, int i, int v) {
            Object row = sheets[s];
            if (row instanceof byte[]) ((byte[]) row)[i] = (byte) v;
            else if (row instanceof short[]) ((short[]) row)[i] = (short) v;
            else ((int[]) row)[i] = v;
        }

        long judge(int s, int w) {
            if (out(s, 0, 3)) return -2;
            if (sheets[s] == null) return -11;
            if (size(s) % 3 != 0) return -2;
            if (out(w, 0, 31)) return -5;
            for (int n = 0; n < size(s) / 3; n++) {
                int who = read(s, 3 * n);
                int t = read(s, 3 * n + 1);
                int turned = read(s, 3 * n + 2);
                if (noSpeaker(who) || noText(t) || out(turned, 0, 1) || !canSay(who, t, turned, n, w)) return n;
            }
            return -1;
        }

        long film(int s) {
            if (out(s, 0, 3)) return -2;
            int[] row = new int[3 * talk.size()];
            for (int k = 0; k < talk.size(); k++) System.arraycopy(talk.get(k), 0, row, 3 * k, 3);
            sheets[s] = row;
            return talk.size();
        }

        int stranger(int seed) {
            long lot = (seed + 1L) * 48271 % 2147483647;
            List<Integer> left = fit();
            int truth = left.get((int) (lot % left.size()));
            int asked = 0;
            while (left.size() > 1 && asked < 6) {
                int n = talk.size() + asked;
                int[] best = best(left, n);
                if (best == null) return asked;
                asked++;
                lot = lot * 48271 % 2147483647;
                boolean told = canSay(best[0], best[1], 0, n, truth);
                boolean turned = canSay(best[0], best[1], 1, n, truth);
                if (told && (!turned || lot % 2 == 0)) left = answering(left, best[0], best[1], 0, n);
                else if (turned) left = answering(left, best[0], best[1], 1, n);
            }
            return asked;
        }

        long drawn(int seed) {
            if (out(seed, 0, 99999)) return -2;
            return fit().isEmpty() ? -1 : stranger(seed);
        }

        long mean(int seed, int seeds, int part) {
            if (out(seed, 0, 99999) || out(seeds, 1, 10) || out(part, 0, 1) || fit().isEmpty()) return NO;
            int sum = 0;
            for (int i = 0; i < seeds; i++) sum += stranger(seed + i);
            return lowest(sum, seeds, part);
        }

        static List<int[]> cloned(List<int[]> rows) {
            List<int[]> found = new ArrayList<>();
            for (int[] row : rows) found.add(row.clone());
            return found;
        }

        long image() {
            keptSpeakers = cloned(speakers);
            keptTalk = cloned(talk);
            keptLaw = law;
            return talk.size();
        }

        long back() {
            if (keptTalk == null) return -3;
            speakers = cloned(keptSpeakers);
            talk = cloned(keptTalk);
            law = keptLaw;
            return talk.size();
        }

        long sheet(int s, int sort, int n) {
            if (out(s, 0, 3) || out(sort, -1, 2) || sort >= 0 && n > 40) return -2;
            if (sort >= 0 && n < 0) return -14;
            sheets[s] = sort < 0 ? null : sort == 0 ? new byte[n] : sort == 1 ? new short[n] : new int[n];
            return 1;
        }

        long cell(int s, int i, int v) {
            if (out(s, 0, 3)) return -2;
            if (sheets[s] == null) return -11;
            if (i < 0 || i >= size(s)) return -12;
            write(s, i, v);
            return 1;
        }

        long copy(int s, int i, int other, int j, int n) {
            if (out(s, 0, 3) || out(other, 0, 3)) return -2;
            if (sheets[s] == null || sheets[other] == null) return -11;
            if (sheets[s].getClass() != sheets[other].getClass()) return -13;
            if (i < 0 || j < 0 || n < 0 || (long) i + n > size(s) || (long) j + n > size(other)) return -12;
            System.arraycopy(sheets[s], i, sheets[other], j, n);
            return n;
        }

        long sayingsBy(int s, int sort, int at, int n) {
            if (out(s, 0, 3) || out(sort, 0, 2) || out(n, 0, 12)) return -2;
            if (sheets[s] == null) return -11;
            if (sheets[s].getClass() != List.of(byte[].class, short[].class, int[].class).get(sort)) return -13;
            int came = 0;
            for (long i = at; i < (long) at + 3 * n; i += 3) {
                if (i < 0 || i + 2 >= size(s)) return -12;
                if (say(read(s, (int) i), read(s, (int) i + 1), read(s, (int) i + 2)) >= 0) came++;
            }
            return came;
        }

        long taken(int i, int kind) {
            if (out(kind, 0, 6)) return -2;
            if (out(i, 0, 16)) return -12;
            if (i < 12 ? i >= talk.size() : i - 12 >= speakers.size()) return -11;
            if (i < 12) return kind == 6 ? talk.get(i)[2] : -13;
            List<List<Integer>> is = List.of(List.of(0), List.of(0, 1), List.of(0, 2), List.of(0, 1, 3), List.of(0, 4), List.of(0, 2, 5));
            return is.get(speakers.get(i - 12)[0]).contains(kind) ? i - 12 : -13;
        }
    }

    /** A lot that is the same each time. */
    private static final class Lot {
        long state;

        Lot(long seed) {
            state = seed * 2862933555777941757L + 3037000493L;
        }

        int below(int bound) {
            state = state * 6364136223846793005L + 1442695040888963407L;
            return (int) ((state >>> 33) % bound);
        }

        /** Mostly low .. high, at times just or far outside. */
        int near(int low, int high) {
            int lot = below(24);
            if (lot == 0) return low - 1;
            if (lot == 1) return high + 1;
            if (lot == 2 && below(4) == 0) return new int[] {Integer.MIN_VALUE, Integer.MAX_VALUE, -12, 1 << 30}[below(4)];
            return low + below(high - low + 1);
        }
    }

    private static String expression(Lot lot, int depth) {
        int kind = lot.below(depth > 4 ? 3 : 16);
        String[] names = {"a", "b", "c", "d", "e", "who"};
        switch (kind) {
            case 0: case 1: case 3: return names[lot.below(6)];
            case 2: return String.valueOf(lot.below(3) == 0 ? lot.below(10000) : lot.below(4));
            case 4: return "not " + expression(lot, depth + 1);
            case 5: return "-" + expression(lot, depth + 1);
            case 6: case 7: return "(" + expression(lot, depth + 1) + ")";
            case 8: return expression(lot, depth + 1) + "<" + expression(lot, depth + 1);
            case 9: return expression(lot, depth + 1) + " = " + expression(lot, depth + 1);
            case 10: return expression(lot, depth + 1) + "+" + expression(lot, depth + 1);
            case 11: return expression(lot, depth + 1) + " -\n" + expression(lot, depth + 1);
            case 12: return expression(lot, depth + 1) + "*" + expression(lot, depth + 1);
            case 13: return expression(lot, depth + 1) + " and " + expression(lot, depth + 1);
            default: return expression(lot, depth + 1) + " or " + expression(lot, depth + 1);
        }
    }

    private static String textByLot(Lot lot) {
        String once = expression(lot, lot.below(5));
        String twice = lot.below(3) == 0 ? "not(" + once + ")" : expression(lot, lot.below(5));
        StringBuilder text = new StringBuilder("once " + once + ";twice " + twice + ";costs " + expression(lot, 3) + ";");
        for (int i = lot.below(4); i == 0; i = lot.below(2)) {
            String some = " ();+-*<=not a or 1 12345 x\nA";
            int from = lot.below(some.length());
            text.insert(lot.below(text.length() + 1), some.substring(from, Math.min(some.length(), from + 1 + lot.below(3))));
        }
        if (lot.below(8) == 0) text.setLength(lot.below(text.length() + 1));
        return text.toString();
    }

    private static int wrong = 0;
    private static int calls = 0;

    private static boolean due(int run, String call, long got, long due, int... arguments) {
        calls++;
        if (got == due) return true;
        wrong++;
        System.out.println("run " + run + ": " + call + Arrays.toString(arguments) + " answered " + got + ", due is " + due);
        return false;
    }

    private static boolean feedText(int run, SaidTwice x, Model m, String text) {
        int[] five = new int[5];
        for (int i = 0; i < text.length(); i += 5) {
            int n = Math.min(5, text.length() - i);
            for (int k = 0; k < n; k++) five[k] = text.charAt(i + k);
            if (!due(run, "feed", x.feed(n, five[0], five[1], five[2], five[3], five[4]), m.feed(n, five))) return false;
        }
        return due(run, "text " + text, x.text(), m.text());
    }

    private static boolean change(int run, SaidTwice x, Model m, Lot lot) {
        int s = lot.near(0, Math.max(0, m.speakers.size() - 1));
        int t = lot.near(0, m.texts.size() - 1);
        int kind = lot.near(0, 5);
        int more = lot.near(0, 9);
        int turned = lot.near(0, 1);
        switch (lot.below(12)) {
            case 0: return due(run, "speaker", x.speaker(kind, more), m.speaker(kind, more), kind, more);
            case 1: return due(run, "turn", x.turn(s, kind, more), m.turn(s, kind, more), s, kind, more);
            case 2: return lot.below(3) > 0 || due(run, "force", x.force(t), m.force(t), t);
            case 3: return due(run, "unsay", x.unsay(), m.unsay());
            case 4: return feedText(run, x, m, textByLot(lot));
            case 5: return due(run, "image", x.image(), m.image());
            case 6: return lot.below(3) > 0 || due(run, "back", x.back(), m.back());
            case 7: return changeSheets(run, x, m, lot);
            default: return due(run, "say", x.say(s, t, turned), m.say(s, t, turned), s, t, turned);
        }
    }

    private static boolean changeSheets(int run, SaidTwice x, Model m, Lot lot) {
        for (int i = 0; i < 6; i++) {
            int s = lot.near(0, 3);
            int other = lot.near(0, 3);
            int sort = lot.near(-1, 2);
            int n = lot.below(2) == 0 ? 3 * lot.near(0, 13) : lot.near(0, 40);
            int a = lot.near(0, 12);
            int b = lot.near(0, 12);
            int v = lot.below(8) == 0 ? lot.near(-300, 70000) : lot.near(0, 3);
            boolean fine;
            switch (lot.below(8)) {
                case 0: fine = due(run, "sheet", x.sheet(s, sort, n), m.sheet(s, sort, n), s, sort, n); break;
                case 1: fine = due(run, "film", x.film(s), m.film(s), s); break;
                case 2: fine = due(run, "sayingsBy", x.sayingsBy(s, sort, a, b), m.sayingsBy(s, sort, a, b), s, sort, a, b); break;
                case 3: fine = due(run, "copy", x.copy(s, a, other, b, n), m.copy(s, a, other, b, n), s, a, other, b, n); break;
                default: fine = due(run, "cell", x.cell(s, a, v), m.cell(s, a, v), s, a, v);
            }
            if (!fine) return false;
        }
        return true;
    }

    private static boolean lookAtTalk(int run, SaidTwice x, Model m, Lot lot) {
        int what = lot.near(0, 7);
        int n = lot.near(0, m.talk.size());
        int s = lot.near(0, Math.max(0, m.speakers.size() - 1));
        int w = lot.near(0, 31);
        return due(run, "count", x.count(what), m.count(what), what)
            && due(run, "told", x.told(s, what), m.told(s, what), s, what)
            && due(run, "said", x.said(n, what), m.said(n, what), n, what)
            && due(run, "worlds", x.worlds(), Model.bits(m.fit()))
            && due(run, "behind", x.behind(n, what), m.behind(n, what), n, what)
            && due(run, "cannot", x.cannot(), m.cannot())
            && due(run, "lies", x.lies(), m.lies())
            && due(run, "least", x.least(what & 1), m.least(what & 1), what & 1)
            && due(run, "least", x.least(-1), -2)
            && due(run, "mad", x.mad(what), m.mad(what), what)
            && due(run, "habit", x.habit(s, w, what & 1), m.habit(s, w, what & 1), s, w, what & 1)
            && due(run, "kinds", x.kinds(s, w), m.kinds(s, w), s, w)
            && due(run, "many", x.many(what), m.many(what), what)
            && due(run, "taken", x.taken(w, what), m.taken(w, what), w, what);
    }

    private static boolean lookAtTexts(int run, SaidTwice x, Model m, Lot lot) {
        int what = lot.near(0, 3);
        int t = lot.near(0, m.texts.size() - 1);
        int u = lot.near(0, m.texts.size() - 1);
        int v = lot.near(0, m.texts.size() - 1);
        int s = lot.near(0, Math.max(0, m.speakers.size() - 1));
        int w = lot.near(0, 31);
        int x5 = lot.near(0, 4);
        int seed = lot.near(0, 99999);
        int seeds = lot.near(1, 10);
        return due(run, "asks", x.asks(t, w, s, what), m.asks(t, w, s, what), t, w, s, what)
            && due(run, "means", x.means(t, what), m.means(t, what), t, what)
            && due(run, "pairs", x.pairs(x5), m.pairs(x5), x5)
            && due(run, "ask", x.ask(what), m.ask(what), what)
            && due(run, "two", x.two(what), m.two(what), what)
            && due(run, "parts", x.parts(s, t, what), m.parts(s, t, what), s, t, what)
            && due(run, "hide", x.hide(s, w, x5), m.hide(s, w, x5), s, w, x5)
            && due(run, "same", x.same(t, u, what), m.same(t, u, what), t, u, what)
            && due(run, "claims", x.claims(t), m.claims(t), t)
            && due(run, "settle", x.settle(what), m.settle(what), what)
            && due(run, "thrice", x.thrice(t, u, v), m.thrice(t, u, v), t, u, v)
            && due(run, "judge", x.judge(x5, w), m.judge(x5, w), x5, w)
            && due(run, "drawn", x.drawn(seed), m.drawn(seed), seed)
            && due(run, "mean", x.mean(seed, seeds, what & 1), m.mean(seed, seeds, what & 1), seed, seeds, what & 1);
    }

    private static void runByLot(int run) {
        Lot lot = new Lot(run);
        SaidTwice x = new SaidTwice();
        Model m = new Model();
        boolean fine = true;
        int before = calls;
        for (int i = lot.below(5); i > 0 && fine; i--) fine = feedText(run, x, m, textByLot(lot));
        for (int i = lot.below(6); i > 0 && fine; i--) fine = due(run, "speaker", x.speaker(i % 6, i), m.speaker(i % 6, i));
        while (fine && calls - before < 400) {
            for (int i = lot.below(4); i >= 0 && fine; i--) fine = change(run, x, m, lot);
            fine = fine && lookAtTalk(run, x, m, lot) && lookAtTexts(run, x, m, lot);
        }
    }

    /** Short, and so in some worlds and not in others, so that questions part them unevenly. */
    private static String unevenText(Lot lot) {
        String[] some = {"a", "b", "c", "d", "e", "a or b", "c and d", "a + b + c < 2", "d = e", "who = 1", "e * c", "1"};
        String once = some[lot.below(some.length)];
        String twice = lot.below(2) == 0 ? some[lot.below(some.length)] : "not (" + once + ")";
        return "once " + once + ";twice " + twice + ";costs " + lot.below(3) + ";";
    }

    /** What hangs on a question's number: hiders that hide from about then on, seeds up to the last. */
    private static void questionsByLot(int run) {
        Lot lot = new Lot(run + 1000000007L);
        SaidTwice x = new SaidTwice();
        Model m = new Model();
        boolean fine = true;
        for (int i = lot.below(5); i >= 0 && fine; i--) fine = feedText(run, x, m, unevenText(lot));
        int said = lot.below(13);
        for (int i = lot.below(5); i >= 0 && fine; i--) {
            int kind = lot.below(2) == 0 ? 5 : lot.below(6);
            int more = Math.max(0, Math.min(9, said - 2 + lot.below(6)));
            fine = due(run, "speaker", x.speaker(kind, more), m.speaker(kind, more), kind, more);
        }
        for (int k = 0; k < said && fine; k++) {
            int s = lot.below(m.speakers.size());
            int t = lot.below(m.texts.size());
            int turned = lot.below(2);
            fine = due(run, "say", x.say(s, t, turned), m.say(s, t, turned), s, t, turned);
            if (m.fit().size() < 2) fine = fine && due(run, "turn", x.turn(s, 5, 0), m.turn(s, 5, 0), s, 5, 0);
            if (m.fit().size() < 2) fine = fine && due(run, "unsay", x.unsay(), m.unsay());
        }
        for (int what = 0; what < 3; what++) {
            fine = fine && due(run, "ask", x.ask(what), m.ask(what), what) && due(run, "two", x.two(what), m.two(what), what);
        }
        for (int i = 0; i < 8 && fine; i++) {
            int seed = lot.below(2) == 0 ? 99999 - lot.below(6) : lot.below(100000);
            int seeds = 1 + lot.below(10);
            fine = due(run, "drawn", x.drawn(seed), m.drawn(seed), seed)
                && due(run, "mean", x.mean(seed, seeds, 0), m.mean(seed, seeds, 0), seed, seeds, 0)
                && due(run, "mean", x.mean(seed, seeds, 1), m.mean(seed, seeds, 1), seed, seeds, 1);
        }
    }

    private static void textsByLot() {
        Lot lot = new Lot(77);
        int faults = 0;
        for (int i = 0; i < 20000; i++) {
            SaidTwice x = new SaidTwice();
            Model m = new Model();
            String text = textByLot(lot);
            feedText(i, x, m, text);
            if (m.texts.size() == 1) faults++;
            int who = lot.below(5);
            for (int w = 0; w < 32 && m.texts.size() == 2; w++) {
                for (int part = 0; part < 3; part++) due(i, text, x.asks(1, w, who, part), m.asks(1, w, who, part), w, who, part);
            }
        }
        due(0, "texts without and with faults, enough of both", faults > 2000 && faults < 18000 ? 1 : 0, 1);
    }

    public static void main(String[] arguments) {
        int runs = arguments.length > 0 ? Integer.parseInt(arguments[0]) : 400;
        textsByLot();
        for (int run = 0; run < runs && wrong < 20; run++) runByLot(run);
        for (int run = 0; run < runs && wrong < 20; run++) questionsByLot(run);
        System.out.println("model: " + calls + " answers, " + wrong + " not as due");
        if (wrong != 0) System.exit(1);
    }
}

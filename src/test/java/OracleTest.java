import java.util.ArrayList;
import java.util.Arrays;
import java.util.Collections;
import java.util.HashMap;
import java.util.LinkedHashSet;
import java.util.List;
import java.util.Map;
import java.util.Random;
import java.util.Set;
import java.util.TreeSet;
import java.util.regex.Matcher;
import java.util.regex.Pattern;

/**
 * Random runs of calls, each answer held against a slow model that follows the document's words one by one:
 * patterns by the library's expressions, rows by trying all of them, machines by derivatives.
 */
public final class OracleTest {
    static final String LETTERS = "oden";
    static final int MOST_TRIED_DAYS = 6, MOST_TRIED_ROWS = 300;
    static int wrong = 0;
    static int calls = 0;
    static int longTried = 0;

    public static void main(String[] args) {
        for (int seed = 1; seed <= 700 && wrong < 20; seed++) {
            new Run(seed).go();
        }
        for (int seed = 1; seed <= 200 && wrong < 20; seed++) {
            new Run(seed).goLong();
        }
        for (int seed = 1; seed <= 2500 && wrong < 20; seed++) {
            tellText(new Random(seed));
        }
        System.out.println(calls + " calls, " + longTried + " of them over long rows, " + wrong + " wrong");
        if (wrong != 0) {
            System.exit(1);
        }
    }

    /** A text that mostly goes on, till it has ten letters, five open brackets, a fault or sixty bytes. */
    static void tellText(Random random) {
        String text = "";
        String signs = new String[] {"od.(|", "oden.((()|*+?", "ooooo)(|*", "(((o))|+"}[random.nextInt(4)];
        int most = random.nextInt(61);
        for (int i = 0; i < 4 * most && text.length() < most; i++) {
            String longer = text + signs.charAt(random.nextInt(signs.length()));
            if (goesOn(longer) || random.nextInt(30) == 0) text = longer;
        }
        RosterLanes lanes = new RosterLanes();
        for (char c : text.toCharArray()) lanes.feed(c);
        int got = lanes.rule(random.nextInt(3));
        int fault = faultOf(text);
        calls++;
        if (fault >= 0 ? got != -100 - fault : got != 0 && got != RosterLanes.FULL) {
            wrong++;
            System.out.println("the text " + text + " answered " + got + ", its fault is " + fault);
        }
    }

    /** A told pattern: a tree whose text is its name, so that like trees are one. */
    static final class Tree {
        final char kind;
        final Tree left;
        final Tree right;
        final String name;

        Tree(char kind, Tree left, Tree right) {
            this.kind = kind;
            this.left = left;
            this.right = right;
            this.name = left == null ? "" + kind : "(" + left.name + kind + (right == null ? "" : right.name) + ")";
        }

        boolean empty() {
            switch (kind) {
                case '1': case '*': case '?': return true;
                case '+': return left.empty();
                case '&': return left.empty() && right.empty();
                case '|': return left.empty() || right.empty();
                default: return false;
            }
        }

        /** What is left of it behind a letter: several trees, any of which may go on (Antimirov). */
        void after(char letter, Map<String, Tree> to) {
            switch (kind) {
                case '1': return;
                case '|': left.after(letter, to); right.after(letter, to); return;
                case '?': left.after(letter, to); return;
                case '*': case '+': behind(letter, left, new Tree('*', left, null), to); return;
                case '&':
                    behind(letter, left, right, to);
                    if (left.empty()) right.after(letter, to);
                    return;
                default:
                    if (kind == '.' || kind == letter) to.put("1", new Tree('1', null, null));
            }
        }

        private static void behind(char letter, Tree head, Tree tail, Map<String, Tree> to) {
            Map<String, Tree> heads = new HashMap<>();
            head.after(letter, heads);
            for (Tree h : heads.values()) {
                Tree whole = h.kind == '1' ? tail : new Tree('&', h, tail);
                to.put(whole.name, whole);
            }
        }
    }

    /** The tree of a text that is known to be a pattern. */
    static final class TreeReader {
        final String text;
        int at = 0;

        TreeReader(String text) {
            this.text = text;
        }

        Tree choice() {
            Tree tree = chain();
            if (at < text.length() && text.charAt(at) == '|') {
                at++;
                tree = new Tree('|', tree, choice());
            }
            return tree;
        }

        Tree chain() {
            Tree tree = factor();
            return at < text.length() && "|)".indexOf(text.charAt(at)) < 0 ? new Tree('&', tree, chain()) : tree;
        }

        Tree factor() {
            Tree tree;
            char c = text.charAt(at++);
            if (c == '(') {
                tree = choice();
                at++;
            } else {
                tree = new Tree(c, null, null);
            }
            return at < text.length() && "*+?".indexOf(text.charAt(at)) >= 0
                    ? new Tree(text.charAt(at++), tree, null) : tree;
        }
    }

    /** The place of the first byte with which no pattern goes on; the length, if it ends too early; -1: none. */
    static int faultOf(String text) {
        for (int i = 0; i < text.length(); i++) {
            if (!goesOn(text.substring(0, i + 1))) return i;
        }
        return isPattern(text) ? -1 : text.length();
    }

    /** Whether something can come behind it that makes it a pattern: nothing longer than this is ever needed. */
    static boolean goesOn(String text) {
        for (int closed = 0; closed <= 5; closed++) {
            String end = ")))))".substring(5 - closed);
            if (isPattern(text + end) || isPattern(text + "o" + end)) return true;
        }
        return false;
    }

    /** By writing over: what stands in brackets is as one letter, from the innermost brackets on. */
    static boolean isPattern(String text) {
        if (text.replaceAll("[^oden.]", "").length() > 10) return false;
        int open = 0;
        for (char c : text.toCharArray()) {
            open += c == '(' ? 1 : c == ')' ? -1 : 0;
            if (open > 5) return false;
        }
        String inside = "[oden.][*+?]?(\\|?[oden.][*+?]?)*";
        String shorter = text.replaceAll("\\(" + inside + "\\)", "o");
        for (int i = 0; i < 5; i++) shorter = shorter.replaceAll("\\(" + inside + "\\)", "o");
        return shorter.matches(inside);
    }

    /** A machine with its states as they are met. */
    static final class Dfa {
        final List<int[]> next = new ArrayList<>();
        final List<Boolean> ends = new ArrayList<>();

        int size() {
            return next.size();
        }

        int after(int state, String word) {
            for (char c : word.toCharArray()) state = next.get(state)[LETTERS.indexOf(c)];
            return state;
        }

        /** How many words of so many letters end well behind a word. */
        long endings(String word, int letters) {
            long[] behind = new long[size()];
            for (int i = 0; i < size(); i++) behind[i] = ends.get(i) ? 1 : 0;
            for (int k = 0; k < letters; k++) {
                long[] longer = new long[size()];
                for (int i = 0; i < size(); i++) for (int to : next.get(i)) longer[i] += behind[to];
                behind = longer;
            }
            return behind[after(0, word)];
        }

        /** Least, by telling pairs apart until nothing more is told apart. */
        Dfa least() {
            int n = size();
            int[] block = new int[n];
            for (int i = 0; i < n; i++) block[i] = ends.get(i) ? 1 : 0;
            int blocks = 0;
            while (true) {
                Map<List<Integer>, Integer> seen = new HashMap<>();
                int[] finer = new int[n];
                for (int i = 0; i < n; i++) {
                    List<Integer> sign = new ArrayList<>();
                    sign.add(block[i]);
                    for (int s = 0; s < 4; s++) sign.add(block[next.get(i)[s]]);
                    Integer number = seen.get(sign);
                    if (number == null) {
                        number = seen.size();
                        seen.put(sign, number);
                    }
                    finer[i] = number;
                }
                block = finer;
                if (seen.size() == blocks) break;
                blocks = seen.size();
            }
            int[] some = new int[blocks];
            for (int i = 0; i < n; i++) some[block[i]] = i;
            List<Integer> order = new ArrayList<>();
            order.add(block[0]);
            Dfa least = new Dfa();
            for (int i = 0; i < order.size(); i++) {
                int[] row = new int[4];
                for (int s = 0; s < 4; s++) {
                    int to = block[next.get(some[order.get(i)])[s]];
                    if (!order.contains(to)) order.add(to);
                    row[s] = order.indexOf(to);
                }
                least.next.add(row);
                least.ends.add(ends.get(some[order.get(i)]));
            }
            return least;
        }

        static Dfa of(String text, int kind) {
            Tree start = new TreeReader(text).choice();
            List<Map<String, Tree>> sets = new ArrayList<>();
            Map<Set<String>, Integer> numbers = new HashMap<>();
            Map<String, Tree> first = new HashMap<>();
            first.put(start.name, start);
            sets.add(first);
            numbers.put(nameOf(first, kind), 0);
            Dfa dfa = new Dfa();
            for (int i = 0; i < sets.size(); i++) {
                Map<String, Tree> set = sets.get(i);
                boolean matched = matches(set);
                dfa.ends.add(kind == 1 ? !matched : matched);
                int[] row = new int[4];
                for (int s = 0; s < 4; s++) {
                    Map<String, Tree> to = new HashMap<>();
                    if (kind != 0 && matched) {
                        to = set;
                    } else {
                        for (Tree tree : set.values()) tree.after(LETTERS.charAt(s), to);
                        if (kind == 1) to.put(start.name, start);
                    }
                    Set<String> name = nameOf(to, kind);
                    Integer number = numbers.get(name);
                    if (number == null) {
                        number = sets.size();
                        numbers.put(name, number);
                        sets.add(to);
                    }
                    row[s] = number;
                }
                dfa.next.add(row);
            }
            return dfa.least();
        }

        private static boolean matches(Map<String, Tree> set) {
            for (Tree tree : set.values()) if (tree.empty()) return true;
            return false;
        }

        private static Set<String> nameOf(Map<String, Tree> set, int kind) {
            Set<String> name = new TreeSet<>(set.keySet());
            if (kind != 0 && matches(set)) name = new TreeSet<>(Collections.singleton("matched"));
            return name;
        }

        /** All side by side; null, if they come to more than 400 places. */
        static Dfa joined(List<Dfa> sides) {
            List<List<Integer>> places = new ArrayList<>();
            Map<List<Integer>, Integer> numbers = new HashMap<>();
            List<Integer> first = new ArrayList<>(Collections.nCopies(sides.size(), 0));
            places.add(first);
            numbers.put(first, 0);
            Dfa dfa = new Dfa();
            for (int i = 0; i < places.size(); i++) {
                boolean ends = true;
                for (int k = 0; k < sides.size(); k++) ends &= sides.get(k).ends.get(places.get(i).get(k));
                dfa.ends.add(ends);
                int[] row = new int[4];
                for (int s = 0; s < 4; s++) {
                    List<Integer> to = new ArrayList<>();
                    for (int k = 0; k < sides.size(); k++) to.add(sides.get(k).next.get(places.get(i).get(k))[s]);
                    Integer number = numbers.get(to);
                    if (number == null) {
                        number = places.size();
                        numbers.put(to, number);
                        places.add(to);
                        if (places.size() > 400) return null;
                    }
                    row[s] = number;
                }
                dfa.next.add(row);
            }
            return dfa.least();
        }
    }

    static final class ToldRule {
        final String text;
        final int kind;
        final Dfa alone;
        final Pattern expression;

        ToldRule(String text, int kind) {
            this.text = text;
            this.kind = kind;
            this.alone = Dfa.of(text, kind);
            this.expression = Pattern.compile(text);
        }

        boolean allows(String word) {
            Matcher m = expression.matcher(word);
            return kind == 0 ? m.matches() : kind == 1 ? !m.find() : m.lookingAt();
        }
    }

    /** What the image holds. */
    static final class Told {
        int p = 2;
        int t = 7;
        List<ToldRule> rules = new ArrayList<>();
        Dfa machine = Dfa.joined(new ArrayList<>());
        int[][][] wish = new int[6][14][4];
        int[][] change = new int[4][4];
        int[][] need = new int[14][4];
        String[] rows = new String[6];

        Told() {
            Arrays.fill(rows, "ooooooo");
        }

        Told copy() {
            Told c = new Told();
            c.p = p;
            c.t = t;
            c.rules = new ArrayList<>(rules);
            c.machine = machine;
            for (int i = 0; i < 6; i++) for (int d = 0; d < 14; d++) c.wish[i][d] = wish[i][d].clone();
            for (int i = 0; i < 4; i++) c.change[i] = change[i].clone();
            for (int d = 0; d < 14; d++) c.need[d] = need[d].clone();
            c.rows = rows.clone();
            return c;
        }
    }

    /** The document, word by word. */
    static final class Model {
        Told now = new Told();
        Told image = null;
        String tape = "";
        String paper = "";
        long[][] lists = new long[4][];
        List<String> acceptedRows = null;

        boolean one(int one) { return one >= 0 && one < now.p; }
        boolean day(int day) { return day >= 0 && day < now.t; }
        boolean shift(int shift) { return shift >= 0 && shift < 4; }

        boolean isAccepted(String word) {
            for (ToldRule rule : now.rules) if (!rule.allows(word)) return false;
            return true;
        }

        void forget() { acceptedRows = null; }

        /** All accepted rows in order. */
        List<String> all() {
            if (acceptedRows == null) {
                acceptedRows = new ArrayList<>();
                for (String w : now.t <= MOST_TRIED_DAYS ? allWords() : wordsThatGoOn()) {
                    if (isAccepted(w)) acceptedRows.add(w);
                }
            }
            return acceptedRows;
        }

        private List<String> allWords() {
            List<String> words = new ArrayList<>();
            words.add("");
            for (int d = 0; d < now.t; d++) {
                List<String> longer = new ArrayList<>();
                for (String w : words) for (int s = 0; s < 4; s++) longer.add(w + LETTERS.charAt(s));
                words = longer;
            }
            return words;
        }

        /** Long words can't all be tried: those are left out that the model's own machine can't end well. */
        private List<String> wordsThatGoOn() {
            List<String> words = new ArrayList<>();
            words.add("");
            for (int d = 0; d < now.t; d++) {
                List<String> longer = new ArrayList<>();
                for (String w : words) for (int s = 0; s < 4; s++) {
                    String word = w + LETTERS.charAt(s);
                    if (now.machine.endings(word, now.t - d - 1) > 0) longer.add(word);
                }
                words = longer;
            }
            return words;
        }

        boolean tooManyToTry() {
            return now.t > MOST_TRIED_DAYS && now.machine.endings("", now.t) > MOST_TRIED_ROWS;
        }

        int penaltyOf(int one, String row) {
            int sum = 0;
            for (int d = 0; d < row.length(); d++) {
                sum += now.wish[one][d][LETTERS.indexOf(row.charAt(d))];
                if (d > 0) sum += now.change[LETTERS.indexOf(row.charAt(d - 1))][LETTERS.indexOf(row.charAt(d))];
            }
            return sum;
        }

        String bestOf(int one) {
            String best = null;
            for (String row : all()) if (best == null || penaltyOf(one, row) < penaltyOf(one, best)) best = row;
            return best;
        }

        int compare(String a, String b) {
            for (int d = 0; d < now.t; d++) {
                int c = LETTERS.indexOf(a.charAt(d)) - LETTERS.indexOf(b.charAt(d));
                if (c != 0) return c;
            }
            return 0;
        }

        int shortOf(int day, int shift) {
            int have = 0;
            for (int i = 0; i < now.p; i++) if (now.rows[i].charAt(day) == LETTERS.charAt(shift)) have++;
            return Math.max(0, now.need[day][shift] - have);
        }

        int shortAll() {
            int sum = 0;
            for (int d = 0; d < now.t; d++) for (int s = 0; s < 4; s++) sum += shortOf(d, s);
            return sum;
        }

        String with(String row, int day, char c) { return row.substring(0, day) + c + row.substring(day + 1); }

        /** One of people, day, shift, short in all then; null: there is none. */
        int[] theMend() {
            int[] best = null;
            int before = shortAll();
            for (int i = 0; i < now.p; i++) for (int d = 0; d < now.t; d++) for (int s = 0; s < 4; s++) {
                String was = now.rows[i];
                if (was.charAt(d) == LETTERS.charAt(s)) continue;
                String row = with(was, d, LETTERS.charAt(s));
                if (!isAccepted(row)) continue;
                now.rows[i] = row;
                int then = shortAll();
                now.rows[i] = was;
                int[] here = {i, d, s, then, penaltyOf(i, row)};
                if (then < before && (best == null || then < best[3] || (then == best[3] && here[4] < best[4]))) {
                    best = here;
                }
            }
            return best;
        }

        String[] swapped(int a, int b, int i, int j) {
            String x = now.rows[a];
            String y = now.rows[b];
            return new String[] {x.substring(0, i) + y.substring(i, j + 1) + x.substring(j + 1),
                y.substring(0, i) + x.substring(i, j + 1) + y.substring(j + 1)};
        }

        int gainOf(int a, int b, int i, int j) {
            String[] then = swapped(a, b, i, j);
            if (then[0].equals(now.rows[a]) || !isAccepted(then[0]) || !isAccepted(then[1])) return -100000;
            return penaltyOf(a, now.rows[a]) + penaltyOf(b, now.rows[b]) - penaltyOf(a, then[0]) - penaltyOf(b, then[1]);
        }

        int[] theSwap() {
            int[] best = null;
            for (int a = 0; a < now.p; a++) for (int b = a + 1; b < now.p; b++)
                for (int i = 0; i < now.t; i++) for (int j = i; j < now.t; j++) {
                    int gain = gainOf(a, b, i, j);
                    if (gain > 0 && (best == null || gain > best[4])) best = new int[] {a, b, i, j, gain};
                }
            return best;
        }

        void doSwap(int a, int b, int i, int j) {
            String[] then = swapped(a, b, i, j);
            now.rows[a] = then[0];
            now.rows[b] = then[1];
        }

        int wordFault() {
            for (int i = 0; i < tape.length(); i++) if (LETTERS.indexOf(tape.charAt(i)) < 0) return i;
            return -1;
        }

        long call(String name, long[] x) {
            int a = (int) x[0], b = (int) x[1], c = (int) x[2], d = (int) x[3];
            switch (name) {
                case "begin": {
                    if (a < 1 || a > 6 || b < 1 || b > 14) return -2;
                    int was = now.p;
                    now.p = a;
                    now.t = b;
                    now.wish = new int[6][14][4];
                    now.need = new int[14][4];
                    Arrays.fill(now.rows, "oooooooooooooo".substring(0, b));
                    forget();
                    return was;
                }
                case "wish": {
                    if (!one(a) || !day(b) || !shift(c)) return -1;
                    if (d < 0 || d > 99) return -2;
                    int was = now.wish[a][b][c];
                    now.wish[a][b][c] = d;
                    return was;
                }
                case "change": {
                    if (!shift(a) || !shift(b)) return -1;
                    if (c < 0 || c > 99) return -2;
                    int was = now.change[a][b];
                    now.change[a][b] = c;
                    return was;
                }
                case "need": {
                    if (!day(a) || !shift(b)) return -1;
                    if (c < 0 || c > 6) return -2;
                    int was = now.need[a][b];
                    now.need[a][b] = c;
                    return was;
                }
                case "wished": return one(a) && day(b) && shift(c) ? now.wish[a][b][c] : -1;
                case "changed": return shift(a) && shift(b) ? now.change[a][b] : -1;
                case "needed": return day(a) && shift(b) ? now.need[a][b] : -1;
                case "feed": {
                    if (a < 1 || a > 127) return -2;
                    if (tape.length() == 60) return -4;
                    tape += (char) a;
                    return tape.length();
                }
                case "clear": return take().length();
                case "rule": return rule(a);
                case "drop": {
                    if (now.rules.isEmpty()) return -3;
                    now.rules.remove(now.rules.size() - 1);
                    remake();
                    return now.rules.size();
                }
                case "row": {
                    if (!one(a)) return -1;
                    String text = take();
                    for (int i = 0; i < text.length(); i++)
                        if (i >= now.t || LETTERS.indexOf(text.charAt(i)) < 0) return -100 - i;
                    if (text.length() < now.t) return -100 - text.length();
                    now.rows[a] = text;
                    return penaltyOf(a, text);
                }
                case "put": {
                    if (!one(a) || !day(b) || !shift(c)) return -1;
                    int was = LETTERS.indexOf(now.rows[a].charAt(b));
                    now.rows[a] = with(now.rows[a], b, LETTERS.charAt(c));
                    return was;
                }
                case "at": return one(a) && day(b) ? LETTERS.indexOf(now.rows[a].charAt(b)) : -1;
                default: return call2(name, x);
            }
        }

        String take() {
            String text = tape;
            tape = "";
            return text;
        }

        void remake() {
            List<Dfa> sides = new ArrayList<>();
            for (ToldRule rule : now.rules) sides.add(rule.alone);
            now.machine = Dfa.joined(sides);
            forget();
        }

        long rule(int kind) {
            if (kind < 0 || kind > 2) return -1;
            String text = take();
            int fault = faultOf(text);
            if (fault >= 0) return -100 - fault;
            if (now.rules.size() == 5) return -4;
            ToldRule told = new ToldRule(text, kind);
            if (told.alone.size() > 60) return -4;
            List<Dfa> sides = new ArrayList<>();
            for (ToldRule rule : now.rules) sides.add(rule.alone);
            sides.add(told.alone);
            Dfa joined = Dfa.joined(sides);
            if (joined == null || joined.size() > 60) return -4;
            now.rules.add(told);
            now.machine = joined;
            forget();
            return now.rules.size() - 1;
        }

        long call2(String name, long[] x) {
            int a = (int) x[0], b = (int) x[1], c = (int) x[2];
            switch (name) {
                case "states":
                    return a == -1 ? now.machine.size()
                        : a >= 0 && a < now.rules.size() ? now.rules.get(a).alone.size() : -1;
                case "next":
                    if (a < 0 || a >= now.machine.size()) return -1;
                    if (b == -1) return now.machine.ends.get(a) ? 1 : 0;
                    return shift(b) ? now.machine.next.get(a)[b] : -1;
                case "run": {
                    int fault = wordFault();
                    String text = take();
                    return fault >= 0 ? -100 - fault : now.machine.after(0, text);
                }
                case "allows": {
                    if (a < 0 || a >= now.rules.size()) return -1;
                    int fault = wordFault();
                    String text = take();
                    return fault >= 0 ? -100 - fault : now.rules.get(a).allows(text) ? 1 : 0;
                }
                case "count": {
                    if (!one(a) || b < 0 || b > now.t) return Long.MIN_VALUE;
                    long n = 0;
                    for (String row : all()) if (row.startsWith(now.rows[a].substring(0, b))) n++;
                    return n;
                }
                case "nth":
                    if (!day(b) || x[0] < 0 || x[0] >= all().size()) return -1;
                    return LETTERS.indexOf(all().get((int) x[0]).charAt(b));
                case "ahead": {
                    if (!one(a)) return Long.MIN_VALUE;
                    long n = 0;
                    for (String row : all()) if (compare(row, now.rows[a]) < 0) n++;
                    return n;
                }
                case "may": {
                    if (!one(a) || !day(b)) return -1;
                    int bits = 0;
                    for (int s = 0; s < 4; s++)
                        for (String row : all())
                            if (row.startsWith(now.rows[a].substring(0, b) + LETTERS.charAt(s))) bits |= 1 << s;
                    return bits;
                }
                case "penalty": return one(a) ? penaltyOf(a, now.rows[a]) : -1;
                case "best":
                    if (!one(a) || (b != -1 && !day(b))) return -1;
                    if (bestOf(a) == null) return -3;
                    return b == -1 ? penaltyOf(a, bestOf(a)) : LETTERS.indexOf(bestOf(a).charAt(b));
                case "better": {
                    if (!one(a)) return -1;
                    String best = bestOf(a);
                    if (best == null) return -3;
                    int was = penaltyOf(a, now.rows[a]);
                    now.rows[a] = best;
                    return was - penaltyOf(a, best);
                }
                case "accepted": {
                    if (a != -1) return one(a) ? isAccepted(now.rows[a]) ? 1 : 0 : -1;
                    for (int i = 0; i < now.p; i++) if (!isAccepted(now.rows[i])) return 0;
                    return 1;
                }
                case "lacks": return a == -1 ? shortAll() : day(a) && shift(b) ? shortOf(a, b) : -1;
                case "mend":
                    if (a < 0 || a > 3) return -1;
                    return theMend() == null ? -5 : theMend()[a];
                case "repair": {
                    if (a < 1 || a > 40) return -2;
                    int n = 0;
                    for (int[] m = theMend(); n < a && m != null; m = theMend(), n++)
                        now.rows[m[0]] = with(now.rows[m[0]], m[1], LETTERS.charAt(m[2]));
                    return n;
                }
                default: return call3(name, x);
            }
        }

        long call3(String name, long[] x) {
            int a = (int) x[0], b = (int) x[1], c = (int) x[2], d = (int) x[3];
            switch (name) {
                case "swap": case "swaps": {
                    if (!one(a) || !one(b) || a >= b || !day(c) || !day(d) || c > d) return -1;
                    int gain = gainOf(a, b, c, d);
                    if (gain != -100000 && name.equals("swaps")) doSwap(a, b, c, d);
                    return gain;
                }
                case "bestSwap":
                    if (a < 0 || a > 4) return -1;
                    return theSwap() == null ? -5 : theSwap()[a];
                case "improve": {
                    if (a < 1 || a > 20) return -2;
                    int n = 0;
                    for (int[] s = theSwap(); n < a && s != null; s = theSwap(), n++) doSwap(s[0], s[1], s[2], s[3]);
                    return n;
                }
                case "worst": {
                    if (!one(a)) return -1;
                    List<Integer> order = new ArrayList<>();
                    for (int i = 0; i < now.p; i++) order.add(i);
                    order.sort((i, j) -> penaltyOf(j, now.rows[j]) - penaltyOf(i, now.rows[i]));
                    return order.get(a);
                }
                case "judge": {
                    if (a < 0 || a > 3) return -1;
                    if (lists[a] == null) return -11;
                    if (b < 0 || (long) b + now.t > lists[a].length) return -13;
                    String row = "";
                    for (int i = 0; i < now.t; i++) {
                        long v = lists[a][b + i];
                        if (v < 0 || v > 3) return -2;
                        row += LETTERS.charAt((int) v);
                    }
                    for (int i = 0; i < now.t; i++) {
                        boolean alive = false;
                        for (String w : all()) alive |= w.startsWith(row.substring(0, i + 1));
                        if (!alive) return i;
                    }
                    return -5;
                }
                case "lay": {
                    if (!one(c) || a < 0 || a > 3) return -1;
                    if (lists[a] == null) return -11;
                    String best = bestOf(c);
                    if (best == null) return -3;
                    if (b < 0) return -13;
                    for (int i = 0; i < now.t; i++) {
                        if ((long) b + i >= lists[a].length) return -13;
                        lists[a][b + i] = LETTERS.indexOf(best.charAt(i));
                    }
                    return now.t;
                }
                case "spell":
                    if (a == 0 && b >= 0 && b < now.rules.size()) paper = now.rules.get(b).text;
                    else if (a == 1 && one(b)) paper = now.rows[b];
                    else return -1;
                    return paper.length();
                case "paper": return a >= 0 && a < paper.length() ? paper.charAt(a) : -1;
                case "sums": return sums(a);
                case "list":
                    if (a < 0 || a > 3) return -1;
                    if (b > 30) return -2;
                    if (b < 0) return -14;
                    lists[a] = new long[b];
                    return 1;
                case "set":
                    if (a < 0 || a > 3) return -1;
                    if (lists[a] == null) return -11;
                    if (b < 0 || b >= lists[a].length) return -13;
                    lists[a][b] = x[2];
                    return 1;
                case "get":
                    return a < 0 || a > 3 || lists[a] == null || b < 0 || b >= lists[a].length
                        ? Long.MIN_VALUE : lists[a][b];
                case "image":
                    image = now.copy();
                    return now.rules.size();
                case "undo":
                    if (image == null) return -3;
                    now = image.copy();
                    forget();
                    return now.rules.size();
                default: throw new IllegalStateException(name);
            }
        }

        long sums(int what) {
            switch (what) {
                case 0: return now.p;
                case 1: return now.t;
                case 2: return now.rules.size();
                case 3: return tape.length();
                case 4: return paper.length();
                case 5: {
                    int sum = 0;
                    for (int i = 0; i < now.p; i++) sum += penaltyOf(i, now.rows[i]);
                    return sum;
                }
                default:
                    return what >= 10 && what < 10 + now.rules.size() ? now.rules.get(what - 10).kind : -1;
            }
        }
    }

    static long ask(RosterLanes r, String name, long[] x) {
        int a = (int) x[0], b = (int) x[1], c = (int) x[2], d = (int) x[3];
        switch (name) {
            case "begin": return r.begin(a, b);
            case "wish": return r.wish(a, b, c, d);
            case "change": return r.change(a, b, c);
            case "need": return r.need(a, b, c);
            case "wished": return r.wished(a, b, c);
            case "changed": return r.changed(a, b);
            case "needed": return r.needed(a, b);
            case "feed": return r.feed(a);
            case "clear": return r.clear();
            case "rule": return r.rule(a);
            case "drop": return r.drop();
            case "row": return r.row(a);
            case "put": return r.put(a, b, c);
            case "at": return r.at(a, b);
            case "states": return r.states(a);
            case "next": return r.next(a, b);
            case "run": return r.run();
            case "allows": return r.allows(a);
            case "count": return r.count(a, b);
            case "nth": return r.nth(x[0], b);
            case "ahead": return r.ahead(a);
            case "may": return r.may(a, b);
            case "penalty": return r.penalty(a);
            case "best": return r.best(a, b);
            case "better": return r.better(a);
            case "accepted": return r.accepted(a);
            case "lacks": return r.lacks(a, b);
            case "mend": return r.mend(a);
            case "repair": return r.repair(a);
            case "swap": return r.swap(a, b, c, d);
            case "swaps": return r.swaps(a, b, c, d);
            case "bestSwap": return r.bestSwap(a);
            case "improve": return r.improve(a);
            case "worst": return r.worst(a);
            case "judge": return r.judge(a, b);
            case "lay": return r.lay(a, b, c);
            case "spell": return r.spell(a, b);
            case "paper": return r.paper(a);
            case "sums": return r.sums(a);
            case "list": return r.list(a, b);
            case "set": return r.set(a, b, x[2]);
            case "get": return r.get(a, b);
            case "image": return r.image();
            case "undo": return r.undo();
            default: throw new IllegalStateException(name);
        }
    }

    /** One object, one model, some hundred calls. */
    static final class Run {
        static final String[] ASKED = {"wished", "changed", "needed", "at", "states", "next", "run", "allows", "count",
            "nth", "ahead", "may", "penalty", "best", "better", "accepted", "lacks", "mend", "repair", "swap", "swaps",
            "bestSwap", "improve", "worst", "judge", "lay", "spell", "paper", "sums", "list", "set", "get", "image",
            "undo", "drop", "put", "wish", "change", "need", "feed", "clear", "row", "rule", "begin"};
        static final Set<String> TRIES_ALL = new LinkedHashSet<>(Arrays.asList("count", "nth", "ahead", "may", "best",
            "better", "judge", "lay"));
        final int seed;
        final Random random;
        final RosterLanes lanes = new RosterLanes();
        final Model model = new Model();
        boolean stopped = false;

        Run(int seed) {
            this.seed = seed;
            this.random = new Random(seed);
        }

        void go() {
            call("begin", 1 + random.nextInt(6), days());
            for (int i = 0; i < 45 && !stopped; i++) {
                int kind = random.nextInt(14);
                if (kind == 0) call("begin", 1 + random.nextInt(6), days());
                else if (kind <= 2) tellRule();
                else if (kind == 3) tellRow();
                else if (kind == 4) tellNumbers();
                else if (kind == 5) tellWord();
                else if (kind == 6) tellList();
                else if (kind == 7 && i % 3 == 0) machine();
                else for (int k = 0; k < 8 && !stopped; k++) any();
            }
        }

        /** Rows of seven days and more, with rules by which there are not too many to try, and rows among them. */
        void goLong() {
            call("begin", 1 + random.nextInt(6), 7 + random.nextInt(8));
            for (int i = 0; i < 6 && (model.now.rules.isEmpty() || model.tooManyToTry()); i++) {
                feed(tightPattern());
                call("rule", i == 0 || random.nextInt(3) == 0 ? 0 : 1);
            }
            if (model.tooManyToTry()) return;
            tellNumbers();
            for (int i = 0; i < 60 && !stopped; i++) {
                int one = random.nextInt(model.now.p);
                int day = random.nextInt(model.now.t);
                int n = model.all().size();
                String row = n == 0 ? word(model.now.t) : model.all().get(random.nextInt(n));
                switch (random.nextInt(9)) {
                    case 0:
                        feed(row);
                        call("row", one);
                        break;
                    case 1: call("put", one, day, random.nextInt(4)); break;
                    case 2: call("count", one, random.nextInt(model.now.t + 1)); break;
                    case 3: call("nth", random.nextInt(n + 1), day); break;
                    case 4: call("ahead", one); break;
                    case 5: call("may", one, day); break;
                    case 6: call(random.nextInt(3) == 0 ? "better" : "best", one, day - random.nextInt(2)); break;
                    case 7:
                        call("list", 1, 30);
                        for (int d = 0; d < row.length(); d++) call("set", 1, d + i % 17, LETTERS.indexOf(row.charAt(d)));
                        call("set", 1, i % 17 + day, random.nextInt(4));
                        call("judge", 1, i % 17);
                        break;
                    default:
                        call("list", 0, random.nextInt(31));
                        call("lay", 0, random.nextInt(18) - 1, one);
                        for (int k = 0; k < 31; k++) call("get", 0, k);
                        call("mend", i % 4);
                        call("bestSwap", i % 5);
                }
            }
        }

        int days() {
            return random.nextInt(5) == 0 ? 6 + random.nextInt(9) : 1 + random.nextInt(5);
        }

        void call(String name, long... told) {
            long[] x = Arrays.copyOf(told, 4);
            if (TRIES_ALL.contains(name)) {
                if (model.tooManyToTry()) return;
                if (model.now.t > MOST_TRIED_DAYS) longTried++;
            }
            long due = model.call(name, x);
            long got = ask(lanes, name, x);
            calls++;
            if (got != due) {
                wrong++;
                stopped = true;
                System.out.println("seed " + seed + ": " + name + Arrays.toString(told) + " answered " + got
                        + ", due is " + due);
            }
        }

        void feed(String text) {
            for (char c : text.toCharArray()) call("feed", c);
        }

        void tellRule() {
            if (random.nextInt(4) > 0) call("clear");
            String text = model.tooManyToTry() && random.nextInt(3) > 0 ? tightPattern()
                : random.nextInt(4) == 0 ? largePattern()
                : pattern(random.nextInt(4), new int[] {1 + random.nextInt(random.nextInt(3) == 0 ? 11 : 5)});
            if (random.nextInt(5) == 0) {
                int at = random.nextInt(text.length() + 1);
                text = text.substring(0, at) + "od.()|*+?xe".charAt(random.nextInt(11)) + text.substring(at);
            }
            feed(text);
            boolean oftenWhole = model.tooManyToTry() && random.nextBoolean();
            call("rule", oftenWhole ? 0 : random.nextInt(12) == 0 ? random.nextInt(6) - 2 : random.nextInt(3));
            if (random.nextInt(3) == 0) machine();
            if (model.now.rules.size() > 2 && random.nextInt(3) == 0) call("drop");
        }

        String pattern(int depth, int[] letters) {
            StringBuilder text = new StringBuilder();
            int parts = 1 + random.nextInt(4);
            for (int i = 0; i < parts; i++) {
                if (i > 0 && random.nextInt(3) == 0) text.append('|');
                if (depth > 0 && random.nextInt(2) == 0 && letters[0] > 0) {
                    text.append('(').append(pattern(depth - 1, letters)).append(')');
                } else {
                    text.append("oden.o".charAt(random.nextInt(6)));
                    letters[0]--;
                }
                if (random.nextInt(3) == 0) text.append("*+?".charAt(random.nextInt(3)));
                if (letters[0] <= 0) break;
            }
            return text.toString();
        }

        /** One whose machine is large, so that the limits of machines are met. */
        String largePattern() {
            String letter = "" + LETTERS.charAt(random.nextInt(4));
            String dots = "........".substring(random.nextInt(8));
            switch (random.nextInt(4)) {
                case 0: return ".*" + letter + dots;
                case 1: return "(" + letter + dots + ")*";
                case 2: return ".*(" + letter + dots + "|" + LETTERS.charAt(random.nextInt(4)) + ")";
                default: return "(" + letter + "|" + dots + ".)*" + letter;
            }
        }

        /** One that few long rows are made of, if its kind is 0. */
        String tightPattern() {
            String one = "" + LETTERS.charAt(random.nextInt(4));
            String other = "" + LETTERS.charAt(random.nextInt(4));
            String two = "oden.".charAt(random.nextInt(5)) + one;
            switch (random.nextInt(4)) {
                case 0: return "(" + one + two + "|" + other + two + one + ")*" + (random.nextBoolean() ? ".?" : "o?d?");
                case 1: return one + "*" + other + "+(" + two + ")?" + one + "*";
                case 2: return "(" + two + other + "+)+" + one + "?";
                default: return one + "?(" + two + other + "+" + one + "?" + other + "?)*";
            }
        }

        String word(int length) {
            StringBuilder text = new StringBuilder();
            for (int i = 0; i < length; i++) text.append(LETTERS.charAt(random.nextInt(4)));
            if (random.nextInt(8) == 0 && length > 0) text.setCharAt(random.nextInt(length), 'x');
            return text.toString();
        }

        void tellRow() {
            if (random.nextInt(4) > 0) call("clear");
            feed(word(random.nextInt(6) == 0 ? random.nextInt(16) : model.now.t));
            call("row", random.nextInt(10) == 0 ? 6 - random.nextInt(8) : random.nextInt(model.now.p));
        }

        void tellWord() {
            if (random.nextInt(4) > 0) call("clear");
            feed(word(random.nextInt(9)));
            if (random.nextBoolean()) call("run");
            else call("allows", random.nextInt(1 + model.now.rules.size()) - (random.nextInt(9) == 0 ? 1 : 0));
        }

        void tellNumbers() {
            int most = random.nextBoolean() ? 5 : 100;
            for (int i = 0; i < 12; i++) {
                call("wish", random.nextInt(model.now.p), random.nextInt(model.now.t), random.nextInt(4),
                        random.nextInt(most));
                if (i % 3 == 0) call("change", random.nextInt(4), random.nextInt(4), random.nextInt(most));
                if (i % 2 == 0) call("need", random.nextInt(model.now.t), random.nextInt(4), random.nextInt(4));
            }
        }

        void tellList() {
            int list = random.nextInt(4);
            int n = random.nextInt(31);
            call("list", list, n);
            for (int i = 0; i < n; i++) {
                call("set", list, i, random.nextInt(60) == 0 ? random.nextInt(9) - 3 : random.nextInt(4));
            }
            for (int i = 0; i < 5; i++) call("judge", list, random.nextInt(n + 2) - 1);
        }

        void machine() {
            int n = model.now.machine.size();
            call("states", -1);
            for (int state = 0; state <= n; state++) for (int s = -2; s <= 4; s++) call("next", state, s);
        }

        void any() {
            String name = ASKED[random.nextInt(ASKED.length)];
            if (name.equals("begin") && random.nextInt(4) > 0) return;
            long[] x = new long[4];
            for (int i = 0; i < 4; i++) x[i] = number(name);
            if (name.equals("nth") && random.nextInt(4) > 0 && !model.tooManyToTry()) {
                x[0] = random.nextInt(model.all().size() + 2) - 1;
            }
            call(name, x);
        }

        long number(String name) {
            switch (random.nextInt(16)) {
                case 0: return -1 - random.nextInt(3);
                case 1: return 4 + random.nextInt(12);
                case 2: return random.nextInt(130);
                default:
                    return random.nextInt(name.equals("improve") || name.equals("repair") ? 45 : 5);
            }
        }
    }
}

import java.io.IOException;
import java.nio.file.Files;
import java.nio.file.Path;
import java.util.ArrayList;
import java.util.LinkedHashMap;
import java.util.List;
import java.util.Map;
import java.util.Set;
import java.util.TreeSet;
import java.util.function.Supplier;
import java.util.function.ToLongFunction;

/**
 * What the tests of the document's sentences share. Each answer stands under the sentence that asks for it, in the
 * document's own words; and of two objects that were told alike one is asked, so that what the call changed shows.
 */
abstract class Edge {
    static final int NONE = -1, BAD = -2, STATE = -3, FULL = -4, THERE_IS_NONE = -5;
    static final int NOTHING = -11, BEYOND = -13, BELOW = -14, MAY_NOT = -100000;
    static final long NO = Long.MIN_VALUE;
    static final int LEAST = Integer.MIN_VALUE, MOST = Integer.MAX_VALUE;
    static final String LETTERS = "oden";
    /** A PATTERN that fills THE TAPE. */
    static final String SIXTY = "(((((o)*)*)*)*)*(((((d)*)*)*)*)*(((((e)*)*)*)*)*n?n?n?n?n?n?";

    private static String sentence = "";
    private static String document = null;
    private static int asked = 0;
    private static int wrong = 0;
    private static final Set<String> SENTENCES = new TreeSet<>();
    private static final Set<Integer> PROMISES = new TreeSet<>();

    // ---- sentences and answers

    /** What is due from now on is due by these words; promise 0: they stand among the Terms. */
    static void says(int promise, String words) {
        sentence = (promise == 0 ? "Terms: " : "Promise " + promise + ": ") + words;
        PROMISES.add(promise);
        if (SENTENCES.add(sentence) && !partOfDocument(promise).contains(plain(words))) {
            fault("the document does not say so");
        }
    }

    private static String partOfDocument(int promise) {
        if (document == null) {
            try {
                document = plain(Files.readString(Path.of("../shared/DOC.md")));
            } catch (IOException e) {
                throw new IllegalStateException("run it from the project's directory", e);
            }
        }
        int from = promise == 0 ? 0 : document.indexOf("## Promise " + promise + ":");
        int to = document.indexOf(promise == 45 ? "## Not promised" : "## Promise " + (promise + 1) + ":");
        return document.substring(from, to);
    }

    private static String plain(String text) {
        return text.replaceAll("\\s+", " ");
    }

    private static void fault(String what) {
        wrong++;
        System.out.println(sentence + "\n    " + what);
    }

    static void due(String call, long got, long want) {
        asked++;
        if (got != want) {
            fault(call + " answered " + got + ", due is " + want);
        }
    }

    static void same(String what, String got, String want) {
        asked++;
        if (!got.equals(want)) {
            fault(what + " is " + got + ", due is " + want);
        }
    }

    /** Each promise from one to another must have been named. */
    static void end(int from, int to) {
        for (int promise = from; promise <= to; promise++) {
            if (!PROMISES.contains(promise)) {
                sentence = "Promise " + promise;
                fault("no sentence of it is tested");
            }
        }
        System.out.println(SENTENCES.size() + " sentences, " + asked + " asked, " + wrong + " wrong");
        if (wrong != 0) {
            System.exit(1);
        }
    }

    /** Numbers that lie outside: those next to the ends, the utmost ones, and such as come back in by a wrap-around. */
    static int[] outside(int first, int last) {
        List<Integer> all = new ArrayList<>();
        int[] far = {1 << 8, 1 << 16, 1 << 24, 1 << 28, 1 << 29, 1 << 30, LEAST};
        all.add(first - 1);
        all.add(last + 1);
        all.add(LEAST);
        all.add(MOST);
        for (int f : far) {
            all.add(first + f);
            all.add(last + f);
            all.add(first - f);
            all.add(last - f);
        }
        List<Integer> out = new ArrayList<>();
        for (int n : all) {
            if ((n < first || n > last) && !out.contains(n)) {
                out.add(n);
            }
        }
        return ints(out);
    }

    private static int[] ints(List<Integer> list) {
        int[] row = new int[list.size()];
        for (int i = 0; i < row.length; i++) {
            row[i] = list.get(i);
        }
        return row;
    }

    // ---- calls that come together

    static RosterLanes of(int people, int days) {
        RosterLanes x = new RosterLanes();
        x.begin(people, days);
        return x;
    }

    static RosterLanes feed(RosterLanes x, String text) {
        for (int i = 0; i < text.length(); i++) {
            x.feed(text.charAt(i));
        }
        return x;
    }

    static int rule(RosterLanes x, int kind, String text) {
        return feed(x, text).rule(kind);
    }

    static int row(RosterLanes x, int one, String text) {
        return feed(x, text).row(one);
    }

    static int run(RosterLanes x, String text) {
        return feed(x, text).run();
    }

    static int allows(RosterLanes x, int rule, String text) {
        return feed(x, text).allows(rule);
    }

    static void list(RosterLanes x, int list, long... values) {
        x.list(list, values.length);
        for (int i = 0; i < values.length; i++) {
            x.set(list, i, values[i]);
        }
    }

    static String roster(RosterLanes x, int one) {
        StringBuilder text = new StringBuilder();
        for (int day = 0; day < x.sums(1); day++) {
            text.append(LETTERS.charAt(x.at(one, day)));
        }
        return text.toString();
    }

    static String best(RosterLanes x, int one) {
        StringBuilder text = new StringBuilder();
        for (int day = 0; day < x.sums(1); day++) {
            text.append(LETTERS.charAt(x.best(one, day)));
        }
        return text.toString();
    }

    static String nth(RosterLanes x, long i) {
        StringBuilder text = new StringBuilder();
        for (int day = 0; day < x.sums(1); day++) {
            text.append(LETTERS.charAt(x.nth(i, day)));
        }
        return text.toString();
    }

    static String paper(RosterLanes x) {
        StringBuilder text = new StringBuilder();
        for (int i = 0; i < x.sums(4); i++) {
            text.append((char) x.paper(i));
        }
        return text.toString();
    }

    /** The longs of a LIST; whether it holds nothing is told by what set() answers. */
    static String listText(RosterLanes x, int list) {
        StringBuilder text = new StringBuilder();
        text.append(x.set(list, -1, 0)).append(':');
        for (int i = 0; i < 31 && x.get(list, i) != NO; i++) {
            text.append(' ').append(x.get(list, i));
        }
        return text.toString();
    }

    static String mend(RosterLanes x) {
        return x.mend(0) + " " + x.mend(1) + " " + x.mend(2) + " " + x.mend(3);
    }

    static String bestSwap(RosterLanes x) {
        return x.bestSwap(0) + " " + x.bestSwap(1) + " " + x.bestSwap(2) + " " + x.bestSwap(3) + " " + x.bestSwap(4);
    }

    // ---- what a call changes

    /**
     * Told in every part, so that any change shows: three PEOPLE, four DAYS, two RULES, another plan in THE IMAGE,
     * a LIST of 5, one of none, nothing, and one of 2; THE TAPE is a PATTERN.
     */
    static RosterLanes told() {
        RosterLanes x = of(2, 3);
        rule(x, 2, "o|d");
        x.wish(1, 2, 3, 9);
        x.change(0, 1, 8);
        x.change(3, 3, 2);
        x.need(2, 1, 2);
        row(x, 1, "den");
        x.image();
        x.drop();
        x.begin(3, 4);
        rule(x, 1, "nn");
        rule(x, 0, "(o|d|e|n)+");
        x.change(3, 3, 0);
        x.change(1, 2, 3);
        x.wish(0, 0, 0, 4);
        x.wish(2, 3, 0, 5);
        x.wish(1, 1, 2, 6);
        x.need(0, 1, 1);
        x.need(3, 3, 2);
        row(x, 0, "oden");
        row(x, 1, "nedo");
        row(x, 2, "eeoo");
        list(x, 0, 0, 1, 2, 3, 7);
        x.list(1, 0);
        list(x, 3, -5, Long.MAX_VALUE);
        x.spell(0, 1);
        return feed(x, "od|e");
    }

    /** The call answers as due, and nothing is changed. */
    static void refused(String call, long want, ToLongFunction<RosterLanes> ask) {
        changes(call, want, Edge::told, ask);
    }

    /** The call answers as due, and just the parts that are named are changed. */
    static void changes(String call, long want, ToLongFunction<RosterLanes> ask, String... parts) {
        changes(call, want, Edge::told, ask, parts);
    }

    static void changes(String call, long want, Supplier<RosterLanes> made, ToLongFunction<RosterLanes> ask,
            String... parts) {
        RosterLanes one = made.get();
        due(call, ask.applyAsLong(one), want);
        Map<String, String> then = partsOf(one);
        Map<String, String> before = partsOf(made.get());
        Set<String> named = new TreeSet<>(List.of(parts));
        Set<String> unlike = new TreeSet<>();
        for (String part : before.keySet()) {
            if (!before.get(part).equals(then.get(part))) {
                unlike.add(part);
            }
        }
        same("what " + call + " changes", unlike.toString(), named.toString());
    }

    /** Like answers behind like calls, and nothing is changed: for what is asked. */
    static void asks(String call, ToLongFunction<RosterLanes> ask) {
        changes(call, ask.applyAsLong(told()), Edge::told, ask);
    }

    /** All that can be seen; it is spoilt by it. */
    private static Map<String, String> partsOf(RosterLanes x) {
        Map<String, String> parts = new LinkedHashMap<>();
        int bytes = x.sums(3);
        parts.put("PAPER", paper(x));
        parts.put("LISTS", listText(x, 0) + ", " + listText(x, 1) + ", " + listText(x, 2) + ", " + listText(x, 3));
        planParts(x, "", parts);
        int image = x.undo();
        Map<String, String> kept = new LinkedHashMap<>();
        if (image >= 0) {
            planParts(x, "", kept);
        }
        parts.put("IMAGE", image + " " + kept);
        parts.put("TAPE", bytes + " " + tapeText(x));
        return parts;
    }

    private static void planParts(RosterLanes x, String ahead, Map<String, String> parts) {
        int people = x.sums(0);
        int days = x.sums(1);
        StringBuilder wishes = new StringBuilder();
        StringBuilder needs = new StringBuilder();
        StringBuilder changes = new StringBuilder();
        StringBuilder rows = new StringBuilder();
        for (int one = 0; one < people; one++) {
            for (int day = 0; day < days; day++) {
                rows.append(x.at(one, day)).append(' ');
                for (int shift = 0; shift < 4; shift++) {
                    wishes.append(x.wished(one, day, shift)).append(' ');
                }
            }
        }
        for (int shift = 0; shift < 4; shift++) {
            for (int day = 0; day < days; day++) {
                needs.append(x.needed(day, shift)).append(' ');
            }
            for (int from = 0; from < 4; from++) {
                changes.append(x.changed(from, shift)).append(' ');
            }
        }
        parts.put("P", "" + people);
        parts.put("T", "" + days);
        parts.put("WISHES", wishes.toString());
        parts.put("NEEDS", needs.toString());
        parts.put("CHANGES", changes.toString());
        parts.put("ROSTER", rows.toString());
        parts.put("RULES", rulesText(x));
        parts.put("MACHINE", machineText(x));
    }

    private static String rulesText(RosterLanes x) {
        StringBuilder text = new StringBuilder();
        text.append(x.sums(2));
        for (int rule = 0; rule < x.sums(2); rule++) {
            x.spell(0, rule);
            text.append(' ').append(x.sums(10 + rule)).append(paper(x)).append(x.states(rule));
        }
        return text.toString();
    }

    static String machineText(RosterLanes x) {
        StringBuilder text = new StringBuilder();
        for (int state = 0; state < x.states(-1); state++) {
            for (int shift = -1; shift < 4; shift++) {
                text.append(x.next(state, shift)).append(shift < 3 ? " " : "; ");
            }
        }
        return text.toString();
    }

    /** THE TAPE, if it is a PATTERN; where its FAULT is, if it isn't. */
    private static String tapeText(RosterLanes x) {
        for (int i = 0; i < 5; i++) {
            x.drop();
        }
        int answer = x.rule(0);
        if (answer != 0) {
            return "" + answer;
        }
        x.spell(0, 0);
        return paper(x);
    }
}

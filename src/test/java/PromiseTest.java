/** Each promise of the document by its number: ordinary inputs, the edges it names, wrong inputs. */
public final class PromiseTest {
    private static final int LEAST = Integer.MIN_VALUE, MOST = Integer.MAX_VALUE;
    private static int wrong = 0;
    private static int asked = 0;
    private static String where = "";

    private static void due(String call, long got, long want) {
        asked++;
        if (got != want) {
            wrong++;
            System.out.println(where + ": " + call + " answered " + got + ", due is " + want);
        }
    }

    private static void feed(RosterLanes x, String text) {
        for (int i = 0; i < text.length(); i++) {
            x.feed(text.charAt(i));
        }
    }

    private static int rule(RosterLanes x, int kind, String text) {
        feed(x, text);
        return x.rule(kind);
    }

    private static int row(RosterLanes x, int one, String text) {
        feed(x, text);
        return x.row(one);
    }

    private static int run(RosterLanes x, String text) {
        feed(x, text);
        return x.run();
    }

    private static int allows(RosterLanes x, int rule, String text) {
        feed(x, text);
        return x.allows(rule);
    }

    private static String roster(RosterLanes x, int one) {
        StringBuilder text = new StringBuilder();
        for (int day = 0; day < x.sums(1); day++) {
            text.append("oden".charAt(x.at(one, day)));
        }
        return text.toString();
    }

    private static String bestOf(RosterLanes x, int one) {
        StringBuilder text = new StringBuilder();
        for (int day = 0; day < x.sums(1); day++) {
            text.append("oden".charAt(x.best(one, day)));
        }
        return text.toString();
    }

    private static String paper(RosterLanes x) {
        StringBuilder text = new StringBuilder();
        for (int i = 0; i < x.sums(4); i++) {
            text.append((char) x.paper(i));
        }
        return text.toString();
    }

    private static void same(String what, String got, String want) {
        asked++;
        if (!got.equals(want)) {
            wrong++;
            System.out.println(where + ": " + what + " is " + got + ", due is " + want);
        }
    }

    private static RosterLanes of(int people, int days) {
        RosterLanes x = new RosterLanes();
        x.begin(people, days);
        return x;
    }

    private static void list(RosterLanes x, int list, int... values) {
        x.list(list, values.length);
        for (int i = 0; i < values.length; i++) {
            x.set(list, i, values[i]);
        }
    }

    public static void main(String[] args) {
        newObject();
        begin();
        told();
        tape();
        faults();
        rules();
        limits();
        rows();
        machines();
        words();
        counts();
        penalties();
        cover();
        swaps();
        toldRows();
        texts();
        listsOfLongs();
        image();
        System.out.println(asked + " asked, " + wrong + " wrong");
        if (wrong != 0) {
            System.exit(1);
        }
    }

    private static void newObject() {
        where = "promise 1";
        RosterLanes x = new RosterLanes();
        due("NO", RosterLanes.NO, Long.MIN_VALUE);
        due("people", x.sums(0), 2);
        due("days", x.sums(1), 7);
        due("rules", x.sums(2), 0);
        due("bytes of the tape", x.sums(3), 0);
        due("bytes of the paper", x.sums(4), 0);
        due("penalties", x.sums(5), 0);
        same("row 0", roster(x, 0), "ooooooo");
        same("row 1", roster(x, 1), "ooooooo");
        due("get(0, 0)", x.get(0, 0), RosterLanes.NO);
        for (int day = 0; day < 7; day++) {
            for (int shift = 0; shift < 4; shift++) {
                due("wished", x.wished(0, day, shift) + x.wished(1, day, shift), 0);
                due("needed", x.needed(day, shift), 0);
                due("changed", x.changed(shift, day % 4), 0);
            }
        }
    }

    private static void begin() {
        where = "promise 2";
        RosterLanes x = new RosterLanes();
        int[][] bad = {{0, 7}, {7, 7}, {-1, 7}, {LEAST, 7}, {MOST, 7}, {2, 0}, {2, 15}, {2, -1}, {2, LEAST}, {2, MOST}};
        rule(x, 1, "nn");
        x.change(1, 2, 9);
        x.wish(1, 6, 3, 8);
        x.need(6, 2, 3);
        x.put(1, 6, 3);
        x.spell(1, 1);
        x.list(2, 3);
        x.set(2, 1, 77);
        feed(x, "od");
        for (int[] b : bad) {
            due("begin, bad", x.begin(b[0], b[1]), RosterLanes.BAD);
        }
        due("wish stays", x.wished(1, 6, 3), 8);
        due("image()", x.image(), 1);
        due("begin(6, 14)", x.begin(6, 14), 2);
        due("p", x.sums(0), 6);
        due("T", x.sums(1), 14);
        due("rules stay", x.sums(2), 1);
        due("tape stays", x.sums(3), 2);
        due("paper stays", x.sums(4), 7);
        due("change stays", x.changed(1, 2), 9);
        due("list stays", x.get(2, 1), 77);
        due("wish is gone", x.wished(1, 6, 3), 0);
        due("need is gone", x.needed(6, 2), 0);
        for (int one = 0; one < 6; one++) {
            same("row", roster(x, one), "oooooooooooooo");
        }
        due("machine stays", x.states(-1), 3);
        x.wish(5, 13, 3, 4);
        x.put(5, 13, 3);
        due("begin(1, 1)", x.begin(1, 1), 6);
        due("no one 1", x.at(1, 0), RosterLanes.NONE);
        due("no day 1", x.at(0, 1), RosterLanes.NONE);
        due("begin(6, 14)", x.begin(6, 14), 1);
        due("wish is gone", x.wished(5, 13, 3), 0);
        due("shift is gone", x.at(5, 13), 0);
        due("undo()", x.undo(), 1);
        due("p by the image", x.sums(0), 2);
        due("begin with the same", x.begin(2, 7), 2);
        due("wish is gone", x.wished(1, 6, 3), 0);
    }

    private static void told() {
        where = "promises 3, 6";
        RosterLanes x = of(3, 5);
        int[][] none = {{-1, 0, 0}, {3, 0, 0}, {LEAST, 0, 0}, {MOST, 0, 0}, {0, -1, 0}, {0, 5, 0}, {0, LEAST, 0},
            {0, MOST, 0}, {0, 0, -1}, {0, 0, 4}, {0, 0, LEAST}, {0, 0, MOST}};
        for (int[] n : none) {
            due("wish, none", x.wish(n[0], n[1], n[2], 1), RosterLanes.NONE);
            due("wish, none ahead of bad", x.wish(n[0], n[1], n[2], 100), RosterLanes.NONE);
            due("wished, none", x.wished(n[0], n[1], n[2]), RosterLanes.NONE);
            due("put, none", x.put(n[0], n[1], n[2]), RosterLanes.NONE);
        }
        due("wish", x.wish(2, 4, 3, 99), 0);
        due("wish again", x.wish(2, 4, 3, 7), 99);
        due("wish, bad", x.wish(2, 4, 3, 100), RosterLanes.BAD);
        due("wish, bad", x.wish(2, 4, 3, -1), RosterLanes.BAD);
        due("wish, bad", x.wish(2, 4, 3, LEAST), RosterLanes.BAD);
        due("wish, bad", x.wish(2, 4, 3, MOST), RosterLanes.BAD);
        due("wished", x.wished(2, 4, 3), 7);
        due("wished beside it", x.wished(2, 4, 2) + x.wished(2, 3, 3) + x.wished(1, 4, 3), 0);
        due("wish back to 0", x.wish(2, 4, 3, 0), 7);
        due("wished", x.wished(2, 4, 3), 0);

        where = "promises 4, 7";
        int[][] noChange = {{-1, 0}, {4, 0}, {0, -1}, {0, 4}, {LEAST, 0}, {0, MOST}};
        for (int[] n : noChange) {
            due("change, none", x.change(n[0], n[1], 1), RosterLanes.NONE);
            due("change, none ahead of bad", x.change(n[0], n[1], -1), RosterLanes.NONE);
            due("changed, none", x.changed(n[0], n[1]), RosterLanes.NONE);
        }
        due("change", x.change(3, 1, 99), 0);
        due("change", x.change(3, 1, 5), 99);
        due("change to the same", x.change(2, 2, 6), 0);
        due("change, bad", x.change(3, 1, 100), RosterLanes.BAD);
        due("change, bad", x.change(3, 1, -1), RosterLanes.BAD);
        due("changed", x.changed(3, 1), 5);
        due("changed the other way", x.changed(1, 3), 0);
        due("changed to the same", x.changed(2, 2), 6);

        where = "promises 5, 8";
        int[][] noNeed = {{-1, 0}, {5, 0}, {0, -1}, {0, 4}, {LEAST, 0}, {MOST, 0}};
        for (int[] n : noNeed) {
            due("need, none", x.need(n[0], n[1], 1), RosterLanes.NONE);
            due("need, none ahead of bad", x.need(n[0], n[1], 7), RosterLanes.NONE);
            due("needed, none", x.needed(n[0], n[1]), RosterLanes.NONE);
        }
        due("need", x.need(4, 3, 6), 0);
        due("need", x.need(4, 3, 2), 6);
        due("need, bad", x.need(4, 3, 7), RosterLanes.BAD);
        due("need, bad", x.need(4, 3, -1), RosterLanes.BAD);
        due("needed", x.needed(4, 3), 2);
        due("needed beside it", x.needed(4, 2) + x.needed(3, 3), 0);
    }

    private static void tape() {
        where = "promise 9";
        RosterLanes x = new RosterLanes();
        int[] bad = {0, 128, -1, LEAST, MOST};
        for (int b : bad) {
            due("feed, bad", x.feed(b), RosterLanes.BAD);
        }
        due("feed(1)", x.feed(1), 1);
        due("feed(127)", x.feed(127), 2);
        for (int i = 3; i <= 60; i++) {
            due("feed", x.feed('o'), i);
        }
        due("feed, full", x.feed('o'), RosterLanes.FULL);
        due("feed, bad ahead of full", x.feed(0), RosterLanes.BAD);
        due("sums(3)", x.sums(3), 60);
        where = "promise 10";
        due("clear()", x.clear(), 60);
        due("clear()", x.clear(), 0);
        due("feed behind clear", x.feed('o'), 1);
    }

    private static void faults() {
        where = "promise 11, faults";
        Object[][] texts = {{"", 0}, {"o", -1}, {"o|d", -1}, {"|", 0}, {"o|", 2}, {"o||d", 2}, {"()", 1}, {"(", 1},
            {")", 0}, {"o)", 1}, {"(o", 2}, {"(o)*", -1}, {"(o)**", 4}, {"o+?", 2}, {"o?*", 2}, {"*", 0}, {"+o", 0},
            {"(*o)", 1}, {"(o|)", 3}, {"o|*", 2}, {"x", 0}, {"oO", 1}, {"o o", 1}, {"o\u0001", 1}, {"o\u007f", 1},
            {"oooooooooo", -1}, {"ooooooooooo", 10}, {"..........", -1}, {"..........d", 10}, {"oooooooooo*", -1},
            {"(oooooooooo)+", -1}, {"o|o|o|o|o|o|o|o|o|o", -1}, {"o|o|o|o|o|o|o|o|o|o|o", 19},
            {"oooooooooox", 10},
            {"o|o|o|o|o|o|o|o|o|o|", 19}, {"oooooooooo(", 10}, {"oooooooooo(o)", 10}, {"oooooooooo|", 10},
            {"oooooooooo|o", 10}, {"oooooooooo+(", 11}, {"..........?|", 11}, {"(oooooooooo|", 11}, {"(oooooooooo(", 11},
            {"(oooooooooo)|", 12}, {"(oooooooooo)(", 12}, {"(oooooooooo", 11}, {"oooooooooo)", 10}, {"oooooooooo**", 11},
            {"ooooooooo|", 10}, {"ooooooooo(", 10}, {"ooooooooo|(", 11}, {"ooooooooo((((((", 14}, {"ooooooooo|(o)", -1},
            {"ooooooooo|(o|", 12}, {"ooooooooo(((((d)))))*", -1}, {"ooooooooo(((((d(", 15}, {"ooooooooo(((((d|", 15},
            {"(((((o)))))", -1}, {"((((((o))))))", 5}, {"(((((o|(", 7}, {"(((((o)))))((((((", 16},
            {"(((((o)))))(((((d)))))", -1}, {"(((((o))))", 10}, {"o(d(e(n(.(", 10}, {"o(d(e(n(.(o(", 11}, {"(o)(d", 5}};
        for (Object[] t : texts) {
            String text = (String) t[0];
            int fault = (Integer) t[1];
            RosterLanes x = new RosterLanes();
            due("rule " + text, rule(x, 0, text), fault < 0 ? 0 : -100 - fault);
            due("tape behind " + text, x.sums(3), 0);
            due("rules behind " + text, x.sums(2), fault < 0 ? 1 : 0);
        }
        RosterLanes x = new RosterLanes();
        String longest = "(((((o)*)*)*)*)*(((((d)*)*)*)*)*(((((e)*)*)*)*)*n?n?n?n?n?n?";
        due("60 bytes", longest.length(), 60);
        due("a pattern of 60 bytes", rule(x, 0, longest), 0);
        due("spell it", x.spell(0, 0), 60);
        same("the paper", paper(x), longest);
    }

    private static void rules() {
        where = "promise 11";
        RosterLanes x = new RosterLanes();
        int[] none = {-1, 3, LEAST, MOST};
        feed(x, "o)");
        for (int kind : none) {
            due("rule, none", x.rule(kind), RosterLanes.NONE);
            due("the tape stays", x.sums(3), 2);
        }
        due("the fault", x.rule(2), -101);
        for (int i = 0; i < 5; i++) {
            due("rule", rule(x, i % 3, i % 3 == 1 ? "nn" : ".*"), i);
        }
        due("a fault ahead of full", rule(x, 0, "o("), -102);
        due("none ahead of full", x.rule(3), RosterLanes.NONE);
        due("full", rule(x, 0, ".*"), RosterLanes.FULL);
        due("the tape is empty", x.sums(3), 0);
        due("rules", x.sums(2), 5);
        where = "promise 12";
        for (int i = 4; i >= 0; i--) {
            due("drop()", x.drop(), i);
            due("rules", x.sums(2), i);
        }
        due("drop, none", x.drop(), RosterLanes.STATE);
        rule(x, 0, "(o|d)*");
        rule(x, 1, "oo");
        int both = x.states(-1);
        long many = x.count(0, 0);
        rule(x, 1, "dd");
        due("count", x.count(0, 0), 2);
        due("drop()", x.drop(), 2);
        due("states as before", x.states(-1), both);
        due("count as before", x.count(0, 0), many);
        due("drop()", x.drop(), 1);
        due("count of o and d", x.count(0, 0), 128);
        due("drop()", x.drop(), 0);
        due("all rows", x.count(0, 0), 16384);
    }

    private static void limits() {
        where = "promise 11, limits";
        RosterLanes x = of(1, 14);
        due("61 states", rule(x, 0, "o(d|.......)*d"), RosterLanes.FULL);
        due("the tape is empty", x.sums(3), 0);
        due("60 states", rule(x, 0, "o?(d|.......)*d"), 0);
        due("states", x.states(0), 60);
        due("states", x.states(-1), 60);
        due("last", x.next(59, -1) >= 0 ? 1 : 0, 1);
        due("beyond", x.next(60, -1), RosterLanes.NONE);

        x = of(1, 14);
        rule(x, 0, "(d|.......)*d");
        due("60 states together", rule(x, 2, "e+|.(n+|.|d)"), 1);
        due("states", x.states(-1), 60);

        x = of(1, 14);
        rule(x, 0, "(d|.....)*d");
        rule(x, 0, "(n((n|.))*)");
        int before = x.states(-1);
        due("61 states together", rule(x, 1, "(d)+o|oe"), RosterLanes.FULL);
        due("rules", x.sums(2), 2);
        due("states as before", x.states(-1), before);

        x = of(1, 14);
        due("rule", rule(x, 1, "(no+)|d"), 0);
        due("rule", rule(x, 2, "(((en*))).+"), 1);
        due("rule", rule(x, 1, ".*d...."), 2);
        due("400 places", rule(x, 0, "(n|.....)*n"), 3);
        due("states", x.states(-1), 40);

        x = of(1, 14);
        due("rule", rule(x, 0, "d?o"), 0);
        due("rule", rule(x, 0, "(e|.......)*e"), 1);
        due("401 places", rule(x, 2, ".*o....."), RosterLanes.FULL);
        due("rules", x.sums(2), 2);

        x = of(1, 14);
        due("128 states", rule(x, 0, ".*d......"), RosterLanes.FULL);
        due("many sets, few states", rule(x, 0, ".*(o|.)(d|.)(e|.)(n|.)."), 0);
        due("states", x.states(0), 6);
    }

    private static void rows() {
        where = "promise 13";
        RosterLanes x = of(2, 3);
        x.wish(1, 0, 1, 5);
        x.wish(0, 0, 1, 50);
        x.wish(1, 2, 3, 7);
        x.change(1, 2, 11);
        x.change(2, 3, 13);
        due("row", row(x, 1, "den"), 36);
        same("row 1", roster(x, 1), "den");
        same("row 0", roster(x, 0), "ooo");
        Object[][] faults = {{"", 0}, {"d", 1}, {"de", 2}, {"deno", 3}, {"denx", 3}, {"xen", 0}, {"dxn", 1}, {"dex", 2},
            {"dx", 1}, {"d.n", 1}, {"Den", 0}, {"denooooooooooo", 3}, {"dexo", 2}};
        for (Object[] f : faults) {
            due("row " + f[0], row(x, 0, (String) f[0]), -100 - (Integer) f[1]);
            due("the tape is empty", x.sums(3), 0);
            same("row 0 stays", roster(x, 0), "ooo");
        }
        int[] none = {-1, 2, LEAST, MOST};
        feed(x, "nno");
        for (int one : none) {
            due("row, none", x.row(one), RosterLanes.NONE);
            due("at, none", x.at(one, 0), RosterLanes.NONE);
            due("the tape stays", x.sums(3), 3);
        }
        due("row", x.row(0), 0);
        same("row 0", roster(x, 0), "nno");

        where = "promises 14, 15";
        due("put", x.put(0, 2, 2), 0);
        due("put", x.put(0, 2, 2), 2);
        due("put", x.put(0, 0, 1), 3);
        same("row 0", roster(x, 0), "dne");
        same("row 1", roster(x, 1), "den");
        due("at", x.at(1, 2), 3);
        due("at, none", x.at(0, -1), RosterLanes.NONE);
        due("at, none", x.at(0, 3), RosterLanes.NONE);
        due("at, none", x.at(0, LEAST), RosterLanes.NONE);
        due("at, none", x.at(0, MOST), RosterLanes.NONE);
    }

    private static void machines() {
        where = "promise 16";
        RosterLanes x = new RosterLanes();
        int[] noRule = {-2, 2, LEAST, MOST};
        rule(x, 0, "(o|d)*");
        rule(x, 1, "nd|oo");
        for (int rule : noRule) {
            due("states, none", x.states(rule), RosterLanes.NONE);
        }
        due("states(0)", x.states(0), 2);
        due("states(1)", x.states(1), 4);
        due("states(-1)", x.states(-1), 3);
        where = "promise 17";
        int[][] next = {{1, 0, 2, 2, 1}, {2, 0, 2, 2, 1}, {2, 2, 2, 2, 0}};
        for (int state = 0; state < 3; state++) {
            for (int shift = 0; shift < 4; shift++) {
                due("next", x.next(state, shift), next[state][shift]);
            }
            due("next, -1", x.next(state, -1), next[state][4]);
            due("next, none", x.next(state, 4), RosterLanes.NONE);
            due("next, none", x.next(state, -2), RosterLanes.NONE);
            due("next, none", x.next(state, LEAST), RosterLanes.NONE);
            due("next, none", x.next(state, MOST), RosterLanes.NONE);
        }
        int[] noState = {-1, 3, LEAST, MOST};
        for (int state : noState) {
            due("next, none", x.next(state, 0), RosterLanes.NONE);
            due("next, none", x.next(state, -1), RosterLanes.NONE);
        }
        numbering();
        kinds();
    }

    /** Numbers as states are met: by states in order, in each by shifts in order. */
    private static void numbering() {
        RosterLanes x = new RosterLanes();
        rule(x, 0, "no|ed|de|on");
        due("states", x.states(-1), 7);
        int[][] next = {{1, 2, 3, 4}, {5, 5, 5, 6}, {5, 5, 6, 5}, {5, 6, 5, 5}, {6, 5, 5, 5}, {5, 5, 5, 5}, {5, 5, 5, 5}};
        for (int state = 0; state < 7; state++) {
            for (int shift = 0; shift < 4; shift++) {
                due("next(" + state + ", " + shift + ")", x.next(state, shift), next[state][shift]);
            }
            due("accepts " + state, x.next(state, -1), state == 6 ? 1 : 0);
        }
    }

    private static void kinds() {
        RosterLanes x = new RosterLanes();
        rule(x, 1, "o*");
        due("never nothing: one state", x.states(-1), 1);
        due("that accepts nothing", x.next(0, -1), 0);
        x.drop();
        rule(x, 2, "o*");
        due("begins with nothing: one state", x.states(-1), 1);
        due("that accepts all", x.next(0, -1), 1);
        x.drop();
        rule(x, 2, "od|d");
        due("begins: four states", x.states(-1), 4);
        x.drop();
        rule(x, 0, ".*");
        rule(x, 0, "d.*");
        due("states", x.states(-1), 3);
        rule(x, 0, "o.*");
        due("together nothing: one state", x.states(-1), 1);
        due("one alone", x.states(2), 3);
    }

    private static void words() {
        where = "promise 18";
        RosterLanes x = new RosterLanes();
        rule(x, 1, "oo");
        due("run nothing", x.run(), 0);
        due("run o", run(x, "o"), 1);
        due("run oo", run(x, "oo"), 2);
        due("run ood", run(x, "ood"), 2);
        due("run od", run(x, "od"), 0);
        due("run, a byte", run(x, "odx"), -102);
        due("the tape is empty", x.sums(3), 0);
        due("run, a byte", run(x, ".o"), -100);
        String sixty = "odododododododododododododododododododododododododododododod";
        due("sixty", sixty.length(), 60);
        due("run sixty", run(x, sixty), 0);
        due("the tape is empty", x.sums(3), 0);
        due("run, the last byte", run(x, sixty.substring(1) + "|"), -159);

        where = "promise 19";
        rule(x, 0, "d(o|e)*n?");
        rule(x, 2, "nn|e");
        Object[][] asks = {{0, "", 1}, {0, "doo", 0}, {0, "dodo", 1}, {1, "", 0}, {1, "d", 1}, {1, "doen", 1},
            {1, "doenn", 0}, {1, "od", 0}, {2, "", 0}, {2, "n", 0}, {2, "nn", 1}, {2, "nnod", 1}, {2, "eo", 1},
            {2, "onn", 0}, {2, "oe", 0}, {0, "o o", -101}, {2, "nnx", -102}, {1, "(", -100}};
        for (Object[] a : asks) {
            due("allows " + a[0] + " " + a[1], allows(x, (Integer) a[0], (String) a[1]), (Integer) a[2]);
            due("the tape is empty", x.sums(3), 0);
        }
        int[] none = {-1, 3, LEAST, MOST};
        feed(x, "ox");
        for (int rule : none) {
            due("allows, none", x.allows(rule), RosterLanes.NONE);
            due("the tape stays", x.sums(3), 2);
        }
        due("allows", x.allows(0), -101);
        patterns();
    }

    private static void patterns() {
        Object[][] asks = {{"o*", "", 1}, {"o*", "ooo", 1}, {"o+", "", 0}, {"o+", "oo", 1}, {"o?", "oo", 0}, {"o?", "", 1},
            {"od*", "oddd", 1}, {"od*", "odod", 0}, {"(od)*", "odod", 1}, {"o|de", "de", 1}, {"o|de", "oe", 0},
            {"(o|d)e", "oe", 1}, {".", "n", 1}, {".", "nn", 0}, {".", "", 0}, {"(o*d*)*", "dodo", 1},
            {"((o?)+)+", "", 1}, {"(o?d?)+e", "ddoe", 1}, {"o|d|e", "e", 1}, {"o|d|e", "n", 0}, {"(o|d+)*n", "odddon", 1},
            {"(oo|ddd)*", "oodddoo", 1}, {"(oo|ddd)*", "oodd", 0}, {"o+?", "o", -1}};
        for (Object[] a : asks) {
            RosterLanes x = new RosterLanes();
            rule(x, 0, (String) a[0]);
            due((String) a[0] + " and " + a[1], allows(x, 0, (String) a[1]), (Integer) a[2]);
        }
    }

    private static void counts() {
        where = "promise 20";
        RosterLanes x = of(2, 14);
        due("all", x.count(0, 0), 268435456L);
        rule(x, 1, "oo");
        long one = 1;
        long two = 4;
        for (int day = 2; day <= 14; day++) {
            long three = 3 * two + 3 * one;
            one = two;
            two = three;
        }
        due("no oo in 14 days", x.count(0, 0), two);
        due("behind oo", x.count(0, 2), 0);
        row(x, 1, "odododododododo".substring(0, 14));
        due("behind 14 days", x.count(1, 14), 1);
        due("behind 13 days and an o", x.count(1, 13), 3);
        due("behind 12 days and a d", x.count(1, 12), 15);
        int[] noDay = {-1, 15, LEAST, MOST};
        int[] noOne = {-1, 2, LEAST, MOST};
        for (int k : noDay) {
            due("count, no", x.count(0, k), RosterLanes.NO);
        }
        for (int i : noOne) {
            due("count, no", x.count(i, 0), RosterLanes.NO);
            due("ahead, no", x.ahead(i), RosterLanes.NO);
            due("may, none", x.may(i, 0), RosterLanes.NONE);
        }

        where = "promises 21, 22";
        long all = x.count(0, 0);
        long[] numbers = {0, 1, 2, 1000, 123456, all / 2, all - 2, all - 1};
        for (long i : numbers) {
            for (int day = 0; day < 14; day++) {
                x.put(1, day, x.nth(i, day));
            }
            due("ahead of the nth", x.ahead(1), i);
            due("the nth is accepted", x.accepted(1), 1);
        }
        due("nth, the first", x.nth(0, 1), 1);
        due("nth, none", x.nth(all, 0), RosterLanes.NONE);
        due("nth, none", x.nth(-1, 0), RosterLanes.NONE);
        due("nth, none", x.nth(Long.MAX_VALUE, 0), RosterLanes.NONE);
        due("nth, none", x.nth(Long.MIN_VALUE, 0), RosterLanes.NONE);
        due("nth, none", x.nth(1L << 32, 0), RosterLanes.NONE);
        int[] noNth = {-1, 14, LEAST, MOST};
        for (int day : noNth) {
            due("nth, none", x.nth(0, day), RosterLanes.NONE);
            due("may, none", x.may(0, day), RosterLanes.NONE);
        }
        due("ahead of one that isn't accepted", x.ahead(0), 0);
        row(x, 1, "nnnnnnnnnnnnoo");
        due("ahead of another", x.ahead(1), all - 15);

        where = "promise 23";
        RosterLanes y = of(2, 4);
        rule(y, 0, "o?d(e|n)*d");
        due("may(0, 0)", y.may(0, 0), 3);
        due("may(0, 1)", y.may(0, 1), 2);
        due("may(0, 2), lost", y.may(0, 2), 0);
        row(y, 1, "deed");
        due("may(1, 1)", y.may(1, 1), 12);
        due("may(1, 2)", y.may(1, 2), 12);
        due("may(1, 3)", y.may(1, 3), 2);
        row(y, 1, "dddd");
        due("may(1, 1): that day itself does not matter", y.may(1, 1), 12);
    }

    private static void penalties() {
        where = "promise 24";
        RosterLanes x = of(2, 4);
        x.change(0, 0, 5);
        x.change(0, 3, 7);
        x.wish(0, 0, 0, 1);
        x.wish(0, 3, 3, 20);
        x.wish(1, 3, 0, 40);
        due("penalty(0)", x.penalty(0), 16);
        due("penalty(1)", x.penalty(1), 55);
        x.put(0, 3, 3);
        due("penalty(0)", x.penalty(0), 38);
        due("sums(5)", x.sums(5), 93);
        int[] none = {-1, 2, LEAST, MOST};
        for (int one : none) {
            due("penalty, none", x.penalty(one), RosterLanes.NONE);
            due("best, none", x.best(one, -1), RosterLanes.NONE);
            due("better, none", x.better(one), RosterLanes.NONE);
            due("worst, none", x.worst(one), RosterLanes.NONE);
        }
        int[] noDay = {-2, 4, LEAST, MOST};
        for (int day : noDay) {
            due("best, none", x.best(0, day), RosterLanes.NONE);
        }

        where = "promises 25, 26";
        due("best penalty", x.best(0, -1), 0);
        same("best of 0: the first of the least", bestOf(x, 0), "dodo");
        rule(x, 0, "o*n");
        due("best penalty", x.best(0, -1), 38);
        same("best of 0", bestOf(x, 0), "ooon");
        due("best penalty", x.best(1, -1), 17);
        due("better costs nothing", x.better(0), 0);
        due("better(1)", x.better(1), 38);
        same("row 1", roster(x, 1), "ooon");
        x.put(0, 3, 0);
        due("better may cost", x.better(0), 16 - 38);
        same("row 0", roster(x, 0), "ooon");
        rule(x, 0, "nnn");
        due("best, no row", x.best(0, -1), RosterLanes.STATE);
        due("best, no row", x.best(0, 0), RosterLanes.STATE);
        due("best, none ahead", x.best(0, 4), RosterLanes.NONE);
        due("better, no row", x.better(0), RosterLanes.STATE);
        same("row 0 stays", roster(x, 0), "ooon");
        dearest();

        where = "promise 27";
        RosterLanes y = of(3, 3);
        rule(y, 1, "nn");
        due("lawful", y.accepted(-1), 1);
        row(y, 2, "onn");
        due("accepted(2)", y.accepted(2), 0);
        due("accepted(1)", y.accepted(1), 1);
        due("not lawful", y.accepted(-1), 0);
        due("accepted, none", y.accepted(3), RosterLanes.NONE);
        due("accepted, none", y.accepted(-2), RosterLanes.NONE);
        due("accepted, none", y.accepted(MOST), RosterLanes.NONE);
        due("accepted, none", y.accepted(LEAST), RosterLanes.NONE);
    }

    /** The greatest penalty that there can be. */
    private static void dearest() {
        RosterLanes x = of(6, 14);
        for (int shift = 0; shift < 4; shift++) {
            for (int day = 0; day < 14; day++) {
                x.wish(5, day, shift, 99);
            }
            for (int to = 0; to < 4; to++) {
                x.change(shift, to, 99);
            }
        }
        due("penalty", x.penalty(5), 27 * 99);
        due("best", x.best(5, -1), 27 * 99);
        same("best", bestOf(x, 5), "oooooooooooooo");
        RosterLanes y = of(1, 1);
        y.wish(0, 0, 0, 3);
        y.wish(0, 0, 1, 2);
        y.change(0, 2, 9);
        due("one day alone", y.best(0, -1), 0);
        due("one day alone", y.best(0, 0), 2);
    }

    private static void cover() {
        where = "promise 28";
        RosterLanes x = of(3, 4);
        x.need(0, 1, 2);
        x.need(3, 0, 6);
        due("lacks", x.lacks(0, 1), 2);
        due("lacks", x.lacks(3, 0), 3);
        due("lacks", x.lacks(0, 0), 0);
        due("lacks in all", x.lacks(-1, 0), 5);
        due("lacks in all, any shift", x.lacks(-1, 99), 5);
        due("lacks in all, any shift", x.lacks(-1, LEAST), 5);
        x.put(0, 0, 1);
        due("lacks", x.lacks(0, 1), 1);
        int[][] none = {{-2, 0}, {4, 0}, {LEAST, 0}, {MOST, 0}, {0, -1}, {0, 4}, {0, LEAST}, {0, MOST}};
        for (int[] n : none) {
            due("lacks, none", x.lacks(n[0], n[1]), RosterLanes.NONE);
        }

        where = "promise 29";
        int[] noWhat = {-1, 4, LEAST, MOST};
        for (int what : noWhat) {
            due("mend, none", x.mend(what), RosterLanes.NONE);
        }
        due("mend(0)", x.mend(0), 1);
        due("mend(1)", x.mend(1), 0);
        due("mend(2)", x.mend(2), 1);
        due("mend(3)", x.mend(3), 3);
        x.wish(1, 0, 1, 1);
        due("the lesser penalty", x.mend(0), 2);
        x.wish(2, 3, 0, 1);
        due("of like penalties the least", x.mend(0), 1);
        rule(x, 2, "o|..e");
        due("the row must be accepted", x.mend(0), -5);
        for (int what : noWhat) {
            due("mend, none ahead of -5", x.mend(what), RosterLanes.NONE);
        }
        same("asking changes nothing", roster(x, 1), "oooo");
        x.put(2, 2, 2);
        due("by which it is accepted then", x.mend(0), 2);
        x.drop();
        x.need(0, 0, 2);
        due("no gap for another", x.mend(0), -5);
        mendOrder();
    }

    private static void mendOrder() {
        RosterLanes x = of(2, 3);
        x.need(2, 1, 1);
        x.need(1, 3, 1);
        x.need(1, 2, 1);
        due("the least day", x.mend(1), 1);
        due("the least shift", x.mend(2), 2);
        due("the least of people", x.mend(0), 0);
        x.wish(0, 1, 2, 4);
        x.wish(1, 1, 2, 4);
        due("the penalty ahead of the shift", x.mend(2), 3);
        x.change(0, 3, 1);
        x.change(3, 0, 1);
        due("changes count", x.mend(1), 2);
        x.wish(0, 0, 0, 9);
        due("the penalty itself, not what it grows by", x.mend(0), 1);

        where = "promise 30";
        int[] bad = {0, 41, -1, LEAST, MOST};
        for (int n : bad) {
            due("repair, bad", x.repair(n), RosterLanes.BAD);
        }
        due("repair(1)", x.repair(1), 1);
        same("row 1", roster(x, 1), "ood");
        due("short in all", x.lacks(-1, 0), 2);
        due("repair(40)", x.repair(40), 2);
        due("short in all", x.lacks(-1, 0), 0);
        due("repair(40)", x.repair(40), 0);
        RosterLanes y = of(6, 14);
        for (int day = 0; day < 14; day++) {
            y.need(day, 1 + day % 3, 6);
        }
        due("short in all", y.lacks(-1, 0), 84);
        due("repair(40)", y.repair(40), 40);
        due("short in all", y.lacks(-1, 0), 44);
        due("repair(39)", y.repair(39), 39);
        due("repair(40)", y.repair(40), 5);
        RosterLanes z = of(1, 2);
        rule(z, 1, "o");
        z.need(0, 1, 1);
        z.need(1, 1, 1);
        due("never accepted", z.repair(40), 0);
        z.put(0, 1, 1);
        due("accepted then", z.repair(40), 1);
    }

    private static void swaps() {
        where = "promises 31, 32";
        RosterLanes x = of(3, 4);
        int[][] none = {{-1, 1, 0, 0}, {0, 3, 0, 0}, {1, 0, 0, 0}, {1, 1, 0, 0}, {0, 1, -1, 0}, {0, 1, 0, 4}, {0, 1, 2, 1},
            {0, 1, 4, 4}, {LEAST, 1, 0, 0}, {0, MOST, 0, 0}, {0, 1, LEAST, 0}, {0, 1, 0, MOST}, {0, 1, 4, 3},
            {3, 4, 0, 0}, {0, 1, 0, -1}};
        for (int[] n : none) {
            due("swap, none", x.swap(n[0], n[1], n[2], n[3]), RosterLanes.NONE);
            due("swaps, none", x.swaps(n[0], n[1], n[2], n[3]), RosterLanes.NONE);
        }
        due("nothing changes", x.swap(0, 1, 0, 3), -100000);
        row(x, 1, "onoo");
        x.wish(0, 1, 3, 4);
        x.wish(1, 1, 3, 9);
        x.change(0, 3, 2);
        x.change(3, 0, 1);
        due("swap", x.swap(0, 1, 1, 1), 5);
        due("swap", x.swap(0, 1, 0, 3), 5);
        due("nothing changes", x.swap(0, 1, 2, 3), -100000);
        due("nothing changes", x.swap(0, 2, 0, 3), -100000);
        due("swaps", x.swaps(0, 1, 0, 1), 5);
        same("row 0", roster(x, 0), "onoo");
        same("row 1", roster(x, 1), "oooo");
        due("it costs", x.swap(0, 1, 1, 2), -5);
        due("swaps that costs", x.swaps(0, 1, 1, 2), -5);
        same("row 1", roster(x, 1), "onoo");
        rule(x, 1, "nn");
        row(x, 0, "ooon");
        row(x, 2, "oono");
        due("one row isn't accepted then", x.swap(0, 2, 2, 2), -100000);
        due("the other isn't", x.swap(0, 2, 3, 3), -100000);
        due("swaps changes nothing", x.swaps(0, 2, 3, 3), -100000);
        same("row 0", roster(x, 0), "ooon");
        due("both are", x.swap(0, 2, 2, 3), 0);
        row(x, 0, "nnon");
        due("rows need not be accepted ahead", x.swap(0, 2, 1, 3), 1);
        due("swaps", x.swaps(0, 2, 1, 3), 1);
        same("row 0", roster(x, 0), "nono");
        same("row 2", roster(x, 2), "onon");
        seams();
        theSwap();
    }

    private static void seams() {
        RosterLanes x = of(2, 4);
        row(x, 0, "odod");
        row(x, 1, "enen");
        x.change(0, 1, 10);
        x.change(1, 0, 20);
        x.change(2, 3, 40);
        x.change(3, 2, 30);
        x.change(0, 3, 3);
        x.change(3, 0, 4);
        x.change(2, 1, 5);
        x.change(1, 2, 6);
        int before = x.sums(5);
        int gain = x.swap(0, 1, 1, 2);
        due("what is less", gain, before - 20 - 30 - 3 - 5 - 5 - 3);
        due("swaps", x.swaps(0, 1, 1, 2), gain);
        due("penalties", x.sums(5), before - gain);
        same("row 0", roster(x, 0), "oned");
        same("row 1", roster(x, 1), "edon");
    }

    private static void theSwap() {
        where = "promise 33";
        RosterLanes x = of(3, 3);
        int[] noWhat = {-1, 5, LEAST, MOST};
        for (int what : noWhat) {
            due("bestSwap, none", x.bestSwap(what), RosterLanes.NONE);
        }
        for (int what = 0; what < 5; what++) {
            due("bestSwap, -5", x.bestSwap(what), -5);
        }
        row(x, 0, "odo");
        row(x, 2, "nno");
        for (int one = 0; one < 3; one++) {
            for (int day = 0; day < 3; day++) {
                x.wish(one, day, 3, one == 1 ? 2 : 9);
            }
        }
        long[] want = {1, 2, 0, 1, 14};
        for (int what = 0; what < 5; what++) {
            due("bestSwap(" + what + ")", x.bestSwap(what), want[what]);
        }
        x.wish(1, 0, 3, 20);
        x.wish(1, 0, 0, 1);
        due("the best begins later", x.bestSwap(2), 1);
        due("and gains", x.bestSwap(4), 7);
        rule(x, 1, "on");
        due("it may not be", x.bestSwap(4), -5);

        where = "promise 34";
        int[] bad = {0, 21, -1, LEAST, MOST};
        for (int n : bad) {
            due("improve, bad", x.improve(n), RosterLanes.BAD);
        }
        due("improve, none", x.improve(20), 0);
        x.drop();
        int before = x.sums(5);
        due("improve(1)", x.improve(1), 1);
        due("penalties", x.sums(5), before - 7);
        same("row 1", roster(x, 1), "ono");
        same("row 2", roster(x, 2), "noo");
        due("improve(20)", x.improve(20), 0);
        improveOften();

        where = "promise 35";
        RosterLanes y = of(6, 2);
        int[] penalties = {3, 7, 3, 0, 7, 50};
        int[] order = {5, 1, 4, 0, 2, 3};
        for (int one = 0; one < 6; one++) {
            y.wish(one, 1, 0, penalties[one]);
        }
        for (int k = 0; k < 6; k++) {
            due("worst(" + k + ")", y.worst(k), order[k]);
        }
        due("worst, none", y.worst(6), RosterLanes.NONE);
        due("worst, none", y.worst(-1), RosterLanes.NONE);
    }

    /** 21 swaps of one day each: between these days nobody may swap without loss. */
    private static void improveOften() {
        RosterLanes x = of(6, 14);
        for (int one = 0; one < 6; one++) {
            boolean early = one % 2 == 0;
            for (int day = 0; day < 14; day += 2) {
                x.put(one, day, early ? 2 : 3);
                x.wish(one, day, early ? 2 : 3, 10);
                x.put(one, day + 1, early ? 0 : 1);
                x.wish(one, day + 1, early ? 1 : 0, 99);
            }
        }
        due("penalties", x.sums(5), 420);
        due("improve(20)", x.improve(20), 20);
        due("penalties", x.sums(5), 20);
        due("improve(20)", x.improve(20), 1);
        due("penalties", x.sums(5), 0);
        due("improve(1)", x.improve(1), 0);
    }

    private static void toldRows() {
        where = "promise 36";
        RosterLanes x = of(1, 3);
        rule(x, 1, "nd|oo");
        int[] none = {-1, 4, LEAST, MOST};
        for (int l : none) {
            due("judge, none", x.judge(l, 0), RosterLanes.NONE);
            due("lay, none", x.lay(l, 0, 0), RosterLanes.NONE);
        }
        due("judge, nothing", x.judge(0, -1), -11);
        list(x, 0, 0, 3, 1, 0, 0, 9);
        due("judge(0, 0)", x.judge(0, 0), 2);
        due("judge(0, 1)", x.judge(0, 1), 1);
        due("judge(0, 2)", x.judge(0, 2), 2);
        due("judge(0, 3), bad ahead of lost", x.judge(0, 3), RosterLanes.BAD);
        due("judge(0, 4), beyond ahead of bad", x.judge(0, 4), -13);
        due("judge(0, -1)", x.judge(0, -1), -13);
        due("judge, beyond", x.judge(0, LEAST), -13);
        due("judge, beyond", x.judge(0, MOST), -13);
        list(x, 1, 0, 1, 3);
        due("judge, accepted", x.judge(1, 0), -5);
        x.set(1, 2, -1);
        due("judge, bad", x.judge(1, 0), RosterLanes.BAD);
        x.set(1, 2, 4);
        due("judge, bad", x.judge(1, 0), RosterLanes.BAD);
        x.set(1, 2, (1L << 32) + 1);
        due("judge, bad", x.judge(1, 0), RosterLanes.BAD);
        x.set(1, 2, Long.MIN_VALUE);
        due("judge, bad", x.judge(1, 0), RosterLanes.BAD);
        x.list(2, 0);
        due("judge, no place", x.judge(2, 0), -13);
        x.list(2, 2);
        due("judge, too short", x.judge(2, 0), -13);
        rule(x, 0, "..n");
        list(x, 3, 1, 1, 1);
        due("lost on the last day alone", x.judge(3, 0), 2);
        x.drop();
        rule(x, 0, "n..");
        due("lost on the first day", x.judge(3, 0), 0);
        x.drop();
        rule(x, 0, "..");
        list(x, 3, 1, 1, 1);
        due("no row at all: lost on the first day", x.judge(3, 0), 0);
        x.drop();
        due("accepted again", x.judge(3, 0), -5);
        lay();
    }

    private static void lay() {
        where = "promise 37";
        RosterLanes x = of(2, 3);
        for (int day = 0; day < 3; day++) {
            x.wish(1, day, 0, 1);
            x.wish(1, day, 1, day == 1 ? 5 : 0);
        }
        same("best of 1", bestOf(x, 1), "ded");
        due("lay, nothing", x.lay(0, 0, 1), -11);
        due("lay, none ahead of nothing", x.lay(0, 0, 2), RosterLanes.NONE);
        due("lay, none", x.lay(0, 0, -1), RosterLanes.NONE);
        list(x, 0, 9, 9, 9, 9, 9);
        due("lay(0, 1, 1)", x.lay(0, 1, 1), 3);
        long[] then = {9, 1, 2, 1, 9};
        for (int i = 0; i < 5; i++) {
            due("place " + i, x.get(0, i), then[i]);
        }
        list(x, 0, 9, 9, 9, 9, 9);
        due("lay(0, 3, 1), beyond", x.lay(0, 3, 1), -13);
        long[] part = {9, 9, 9, 1, 2};
        for (int i = 0; i < 5; i++) {
            due("place " + i, x.get(0, i), part[i]);
        }
        list(x, 0, 9, 9, 9, 9, 9);
        int[] beyond = {-1, -2, 5, 6, LEAST, MOST};
        for (int i : beyond) {
            due("lay, beyond", x.lay(0, i, 1), -13);
        }
        for (int i = 0; i < 5; i++) {
            due("place " + i, x.get(0, i), 9);
        }
        due("lay(0, 2, 1)", x.lay(0, 2, 1), 3);
        due("the last place", x.get(0, 4), 1);
        rule(x, 0, "o");
        due("lay, no row ahead of beyond", x.lay(0, 9, 1), RosterLanes.STATE);
        due("lay, nothing ahead of no row", x.lay(1, 0, 1), -11);
        due("nothing is laid", x.get(0, 0), 9);
    }

    private static void texts() {
        where = "promises 38, 39";
        RosterLanes x = of(2, 5);
        due("paper, none", x.paper(0), RosterLanes.NONE);
        rule(x, 0, "(o|d|.)*e?n+|(o)");
        rule(x, 1, "nn");
        row(x, 1, "odeno");
        due("spell(0, 0)", x.spell(0, 0), 16);
        same("the paper", paper(x), "(o|d|.)*e?n+|(o)");
        int[][] none = {{0, 2}, {0, -1}, {1, 2}, {1, -1}, {2, 0}, {-1, 0}, {0, MOST}, {1, LEAST}, {MOST, 0}, {LEAST, 0}};
        for (int[] n : none) {
            due("spell, none", x.spell(n[0], n[1]), RosterLanes.NONE);
            due("the paper stays", x.sums(4), 16);
        }
        due("paper(16)", x.paper(16), RosterLanes.NONE);
        due("paper(-1)", x.paper(-1), RosterLanes.NONE);
        due("paper, none", x.paper(LEAST), RosterLanes.NONE);
        due("paper, none", x.paper(MOST), RosterLanes.NONE);
        due("spell(0, 1)", x.spell(0, 1), 2);
        same("the paper", paper(x), "nn");
        due("spell(1, 1)", x.spell(1, 1), 5);
        same("the paper", paper(x), "odeno");
        due("paper(5)", x.paper(5), RosterLanes.NONE);
        x.put(1, 0, 3);
        same("the paper stays", paper(x), "odeno");

        where = "promise 40";
        feed(x, "abc");
        x.change(0, 1, 3);
        int[] sums = {2, 5, 2, 3, 5, x.penalty(0) + x.penalty(1), -1, -1, -1, -1, 0, 1, -1, -1, -1, -1};
        for (int what = 0; what < sums.length; what++) {
            due("sums(" + what + ")", x.sums(what), sums[what]);
        }
        x.clear();
        rule(x, 2, ".");
        rule(x, 0, ".+");
        rule(x, 1, "eee");
        due("sums(12)", x.sums(12), 2);
        due("sums(13)", x.sums(13), 0);
        due("sums(14)", x.sums(14), 1);
        due("sums(15)", x.sums(15), RosterLanes.NONE);
        due("sums(-1)", x.sums(-1), RosterLanes.NONE);
        due("sums, none", x.sums(LEAST), RosterLanes.NONE);
        due("sums, none", x.sums(MOST), RosterLanes.NONE);
    }

    private static void listsOfLongs() {
        where = "promises 41, 42, 43";
        RosterLanes x = new RosterLanes();
        int[] noList = {-1, 4, LEAST, MOST};
        for (int l : noList) {
            due("list, none", x.list(l, 3), RosterLanes.NONE);
            due("list, none ahead of bad", x.list(l, 31), RosterLanes.NONE);
            due("set, none", x.set(l, 0, 1), RosterLanes.NONE);
            due("get, no", x.get(l, 0), RosterLanes.NO);
        }
        due("list, bad", x.list(0, 31), RosterLanes.BAD);
        due("list, bad", x.list(0, MOST), RosterLanes.BAD);
        due("list, below", x.list(0, -1), -14);
        due("list, below", x.list(0, LEAST), -14);
        due("set, nothing", x.set(0, 0, 1), -11);
        due("set, nothing ahead of beyond", x.set(0, -1, 1), -11);
        due("list(0, 30)", x.list(0, 30), 1);
        due("list(3, 0)", x.list(3, 0), 1);
        due("set, beyond", x.set(3, 0, 1), -13);
        due("get, no", x.get(3, 0), RosterLanes.NO);
        int[] beyond = {-1, 30, LEAST, MOST};
        for (int i : beyond) {
            due("set, beyond", x.set(0, i, 1), -13);
            due("get, no", x.get(0, i), RosterLanes.NO);
        }
        due("set", x.set(0, 29, Long.MAX_VALUE), 1);
        due("set", x.set(0, 0, -5), 1);
        due("get", x.get(0, 29), Long.MAX_VALUE);
        due("get", x.get(0, 0), -5);
        due("get", x.get(0, 1), 0);
        due("list(1, 30)", x.list(1, 30), 1);
        due("another list", x.get(1, 0), 0);
        due("bad changes nothing", x.list(0, 31), RosterLanes.BAD);
        due("get", x.get(0, 29), Long.MAX_VALUE);
        due("list(0, 5)", x.list(0, 5), 1);
        due("all 0", x.get(0, 0), 0);
        due("no place 5", x.get(0, 5), RosterLanes.NO);
        due("list(0, 30)", x.list(0, 30), 1);
        due("all 0", x.get(0, 29), 0);
    }

    private static void image() {
        where = "promises 44, 45";
        RosterLanes x = of(3, 4);
        due("undo, none", x.undo(), RosterLanes.STATE);
        rule(x, 1, "nn");
        rule(x, 0, "(o|n)*");
        x.wish(2, 3, 1, 6);
        x.change(1, 0, 4);
        x.need(3, 3, 2);
        row(x, 2, "nono");
        feed(x, "de");
        x.spell(0, 0);
        x.list(1, 2);
        due("image()", x.image(), 2);
        int states = x.states(-1);
        x.drop();
        x.drop();
        x.clear();
        rule(x, 2, "dd");
        rule(x, 2, "d");
        rule(x, 2, ".");
        x.change(1, 0, 9);
        x.begin(5, 9);
        x.wish(4, 8, 0, 3);
        x.need(0, 0, 1);
        x.spell(1, 0);
        x.set(1, 1, 8);
        feed(x, "odd");
        for (int time = 0; time < 2; time++) {
            due("undo()", x.undo(), 2);
            due("p", x.sums(0), 3);
            due("T", x.sums(1), 4);
            due("wished", x.wished(2, 3, 1), 6);
            due("changed", x.changed(1, 0), 4);
            due("needed", x.needed(3, 3), 2);
            due("needed", x.needed(0, 0), 0);
            same("row 2", roster(x, 2), "nono");
            same("row 1", roster(x, 1), "oooo");
            due("states", x.states(-1), states);
            due("kind", x.sums(10) * 10 + x.sums(11), 10);
            due("the tape stays", x.sums(3), 3);
            due("the paper stays", x.sums(4), 9);
            due("the list stays", x.get(1, 1), 8);
            due("count", x.count(0, 0), 8);
            x.put(2, 0, 1);
            x.wish(2, 3, 1, 77);
            x.change(1, 0, 78);
            x.need(3, 3, 5);
            x.drop();
        }
        due("image()", x.image(), 1);
        x.begin(1, 1);
        x.drop();
        due("undo()", x.undo(), 1);
        due("the later image", x.wished(2, 3, 1), 77);
        due("drop()", x.drop(), 0);
        due("all rows", x.count(0, 0), 256);
    }
}

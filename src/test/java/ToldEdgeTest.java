/** What is told: the boundary sentences of promises 1 to 15. */
public final class ToldEdgeTest extends Edge {
    public static void main(String[] args) {
        newObject();
        begin();
        beginStarts();
        wish();
        change();
        need();
        everyPlace();
        feed();
        clear();
        rule();
        ruleFaults();
        ruleFull();
        drop();
        row();
        put();
        at();
        end(1, 15);
    }

    private static void newObject() {
        says(1, "Two PEOPLE, seven DAYS, no RULES.");
        RosterLanes x = new RosterLanes();
        due("sums(0)", x.sums(0), 2);
        due("the last of two", x.at(1, 0), 0);
        due("no third", x.at(2, 0), NONE);
        due("sums(1)", x.sums(1), 7);
        due("the last of seven", x.at(0, 6), 0);
        due("no eighth", x.at(0, 7), NONE);
        due("sums(2)", x.sums(2), 0);
        due("no rule 0", x.states(0), NONE);
        due("no kind", x.sums(10), NONE);
        due("nothing to drop", x.drop(), STATE);
        due("the machine of no rules", x.states(-1), 1);
        due("all are accepted", x.next(0, -1), 1);
        due("and stays there", x.next(0, 3), 0);
        RosterLanes y = new RosterLanes();
        y.put(0, 0, 1);
        due("one object is not another", x.at(0, 0), 0);
    }

    private static void begin() {
        says(2, "There are p PEOPLE, T DAYS, ROSTER is o throughout, all WISHES and NEEDS are 0 (RULES, CHANGES, THE TAPE, "
                + "THE PAPER, LISTS, THE IMAGE stay): what p was. BAD.");
        int[] people = outside(1, 6);
        for (int p : people) {
            refused("begin(" + p + ", 4)", BAD, x -> x.begin(p, 4));
            refused("begin(" + p + ", 15)", BAD, x -> x.begin(p, 15));
        }
        for (int t : outside(1, 14)) {
            refused("begin(3, " + t + ")", BAD, x -> x.begin(3, t));
        }
        changes("begin(1, 1)", 3, x -> x.begin(1, 1), "P", "T", "WISHES", "NEEDS", "ROSTER");
        changes("begin(6, 14)", 3, x -> x.begin(6, 14), "P", "T", "WISHES", "NEEDS", "ROSTER");
        changes("begin(1, 14)", 3, x -> x.begin(1, 14), "P", "T", "WISHES", "NEEDS", "ROSTER");
        changes("begin(6, 1)", 3, x -> x.begin(6, 1), "P", "T", "WISHES", "NEEDS", "ROSTER");
        changes("begin(3, 4), as it is", 3, x -> x.begin(3, 4), "WISHES", "NEEDS", "ROSTER");
        RosterLanes x = new RosterLanes();
        due("what p was at first", x.begin(6, 1), 2);
        due("what p was", x.begin(1, 14), 6);
        due("p", x.sums(0), 1);
        due("T", x.sums(1), 14);
        due("bad", x.begin(0, 0), BAD);
        due("what p was", x.begin(6, 14), 1);
    }

    private static void beginStarts() {
        says(2, "ROSTER is o throughout, all WISHES and NEEDS are 0");
        RosterLanes x = of(6, 14);
        for (int day = 0; day < 14; day++) {
            x.need(day, day % 4, 6);
            for (int one = 0; one < 6; one++) {
                x.put(one, day, 3);
                x.wish(one, day, 0, 99);
            }
        }
        x.begin(1, 1);
        due("the only shift", x.at(0, 0), 0);
        due("the only wish", x.wished(0, 0, 0), 0);
        due("the only need", x.needed(0, 0), 0);
        x.begin(6, 14);
        for (int one = 0; one < 6; one++) {
            same("row " + one, roster(x, one), "oooooooooooooo");
            due("penalty(" + one + ")", x.penalty(one), 0);
        }
        due("short in all", x.lacks(-1, 0), 0);
    }

    private static void wish() {
        says(3, "WISH: what it was. NONE: one, day, shift; BAD: v.");
        for (int one : outside(0, 2)) {
            refused("wish(" + one + ", 0, 0, 1)", NONE, x -> x.wish(one, 0, 0, 1));
        }
        for (int day : outside(0, 3)) {
            refused("wish(0, " + day + ", 0, 1)", NONE, x -> x.wish(0, day, 0, 1));
        }
        for (int shift : outside(0, 3)) {
            refused("wish(0, 0, " + shift + ", 1)", NONE, x -> x.wish(0, 0, shift, 1));
        }
        for (int v : outside(0, 99)) {
            refused("wish(0, 0, 0, " + v + ")", BAD, x -> x.wish(0, 0, 0, v));
            refused("wish(3, 0, 0, " + v + "), none ahead of bad", NONE, x -> x.wish(3, 0, 0, v));
            refused("wish(0, 4, 0, " + v + "), none ahead of bad", NONE, x -> x.wish(0, 4, 0, v));
            refused("wish(0, 0, 4, " + v + "), none ahead of bad", NONE, x -> x.wish(0, 0, 4, v));
        }
        changes("wish(0, 0, 0, 0)", 4, x -> x.wish(0, 0, 0, 0), "WISHES");
        changes("wish(0, 0, 0, 99)", 4, x -> x.wish(0, 0, 0, 99), "WISHES");
        changes("wish(2, 3, 3, 99)", 0, x -> x.wish(2, 3, 3, 99), "WISHES");
        changes("wish(2, 3, 0, 5), as it is", 5, x -> x.wish(2, 3, 0, 5));

        says(6, "WISH. NONE: none such.");
        for (int one : outside(0, 2)) {
            refused("wished(" + one + ", 0, 0)", NONE, x -> x.wished(one, 0, 0));
        }
        for (int day : outside(0, 3)) {
            refused("wished(0, " + day + ", 0)", NONE, x -> x.wished(0, day, 0));
        }
        for (int shift : outside(0, 3)) {
            refused("wished(0, 0, " + shift + ")", NONE, x -> x.wished(0, 0, shift));
        }
        refused("wished(0, 0, 0)", 4, x -> x.wished(0, 0, 0));
        refused("wished(2, 3, 3)", 0, x -> x.wished(2, 3, 3));
    }

    private static void change() {
        says(4, "CHANGE from a SHIFT to another (or the same): what it was. NONE; BAD.");
        for (int shift : outside(0, 3)) {
            refused("change(" + shift + ", 0, 1)", NONE, x -> x.change(shift, 0, 1));
            refused("change(0, " + shift + ", 1)", NONE, x -> x.change(0, shift, 1));
            refused("change(" + shift + ", 0, 100), none ahead of bad", NONE, x -> x.change(shift, 0, 100));
            refused("change(0, " + shift + ", -1), none ahead of bad", NONE, x -> x.change(0, shift, -1));
        }
        for (int v : outside(0, 99)) {
            refused("change(1, 2, " + v + ")", BAD, x -> x.change(1, 2, v));
        }
        changes("change(1, 2, 0)", 3, x -> x.change(1, 2, 0), "CHANGES");
        changes("change(1, 2, 99)", 3, x -> x.change(1, 2, 99), "CHANGES");
        changes("change(0, 0, 99), the same shift", 0, x -> x.change(0, 0, 99), "CHANGES");
        changes("change(3, 3, 1), the same shift", 0, x -> x.change(3, 3, 1), "CHANGES");
        changes("change(1, 2, 3), as it is", 3, x -> x.change(1, 2, 3));

        says(7, "CHANGE. NONE: none such.");
        for (int shift : outside(0, 3)) {
            refused("changed(" + shift + ", 0)", NONE, x -> x.changed(shift, 0));
            refused("changed(0, " + shift + ")", NONE, x -> x.changed(0, shift));
        }
        refused("changed(1, 2)", 3, x -> x.changed(1, 2));
        refused("changed(2, 1)", 0, x -> x.changed(2, 1));
        refused("changed(0, 1)", 8, x -> x.changed(0, 1));
    }

    private static void need() {
        says(5, "NEED: what it was. NONE: day, shift; BAD.");
        for (int day : outside(0, 3)) {
            refused("need(" + day + ", 0, 1)", NONE, x -> x.need(day, 0, 1));
            refused("need(" + day + ", 0, 7), none ahead of bad", NONE, x -> x.need(day, 0, 7));
        }
        for (int shift : outside(0, 3)) {
            refused("need(0, " + shift + ", 1)", NONE, x -> x.need(0, shift, 1));
            refused("need(0, " + shift + ", -1), none ahead of bad", NONE, x -> x.need(0, shift, -1));
        }
        for (int v : outside(0, 6)) {
            refused("need(0, 1, " + v + ")", BAD, x -> x.need(0, 1, v));
        }
        changes("need(0, 1, 0)", 1, x -> x.need(0, 1, 0), "NEEDS");
        changes("need(0, 1, 6), more than there are", 1, x -> x.need(0, 1, 6), "NEEDS");
        changes("need(3, 3, 6)", 2, x -> x.need(3, 3, 6), "NEEDS");
        changes("need(3, 3, 2), as it is", 2, x -> x.need(3, 3, 2));

        says(8, "NEED. NONE: none such.");
        for (int day : outside(0, 3)) {
            refused("needed(" + day + ", 0)", NONE, x -> x.needed(day, 0));
        }
        for (int shift : outside(0, 3)) {
            refused("needed(0, " + shift + ")", NONE, x -> x.needed(0, shift));
        }
        refused("needed(0, 1)", 1, x -> x.needed(0, 1));
        refused("needed(3, 3)", 2, x -> x.needed(3, 3));
    }

    /** Each place of the largest plan is a place of its own. */
    private static void everyPlace() {
        RosterLanes x = of(6, 14);
        for (int one = 0; one < 6; one++) {
            for (int day = 0; day < 14; day++) {
                x.put(one, day, (one + day * 3 + day / 5) % 4);
                for (int shift = 0; shift < 4; shift++) {
                    x.wish(one, day, shift, (one * 56 + day * 4 + shift) % 97);
                    x.need(day, shift, (day * 4 + shift) % 5);
                    x.change(shift, day % 4, shift * 4 + day % 4);
                }
            }
        }
        for (int one = 0; one < 6; one++) {
            for (int day = 0; day < 14; day++) {
                says(15, "SHIFT of one, a DAY, in ROSTER.");
                due("at(" + one + ", " + day + ")", x.at(one, day), (one + day * 3 + day / 5) % 4);
                for (int shift = 0; shift < 4; shift++) {
                    says(6, "WISH.");
                    due("wished(" + one + ", " + day + ", " + shift + ")", x.wished(one, day, shift),
                            (one * 56 + day * 4 + shift) % 97);
                    says(8, "NEED.");
                    due("needed(" + day + ", " + shift + ")", x.needed(day, shift), (day * 4 + shift) % 5);
                    says(7, "CHANGE.");
                    due("changed(" + shift + ", " + day % 4 + ")", x.changed(shift, day % 4), shift * 4 + day % 4);
                }
            }
        }
    }

    private static void feed() {
        says(9, "A byte (1 .. 127) comes behind THE TAPE's: how many it has. BAD; FULL.");
        for (int letter : outside(1, 127)) {
            refused("feed(" + letter + ")", BAD, x -> x.feed(letter));
            changes("feed(" + letter + ") behind 60, bad ahead of full", BAD, () -> feed(new RosterLanes(), SIXTY),
                    x -> x.feed(letter));
        }
        changes("feed(1)", 5, x -> x.feed(1), "TAPE");
        changes("feed(127)", 5, x -> x.feed(127), "TAPE");
        changes("feed behind 60", FULL, () -> feed(new RosterLanes(), SIXTY), x -> x.feed('o'));
        changes("feed(1) behind 60", FULL, () -> feed(new RosterLanes(), SIXTY), x -> x.feed(1));
        changes("feed(127) behind 60", FULL, () -> feed(new RosterLanes(), SIXTY), x -> x.feed(127));
        RosterLanes x = new RosterLanes();
        for (int i = 1; i <= 60; i++) {
            due("the byte " + i, x.feed('d'), i);
        }
        due("the byte 61", x.feed('d'), FULL);
        due("bytes of the tape", x.sums(3), 60);
        for (int letter = 1; letter <= 127; letter++) {
            RosterLanes y = new RosterLanes();
            due("feed(" + letter + ")", y.feed(letter), 1);
            boolean isLetter = letter == 'o' || letter == 'd' || letter == 'e' || letter == 'n';
            due("it is on the tape", y.run(), isLetter ? 0 : -100);
        }
    }

    private static void clear() {
        says(10, "THE TAPE is empty then: how many bytes it had.");
        changes("clear()", 4, x -> x.clear(), "TAPE");
        changes("clear() of none", 0, RosterLanes::new, x -> x.clear());
        changes("clear() of 60", 60, () -> feed(told(), SIXTY.substring(4)), x -> x.clear(), "TAPE");
        RosterLanes x = feed(new RosterLanes(), SIXTY);
        due("clear()", x.clear(), 60);
        due("clear() again", x.clear(), 0);
        due("feed", x.feed('o'), 1);
    }

    private static void rule() {
        says(11, "NONE: kind (THE TAPE stays)");
        for (int kind : outside(0, 2)) {
            refused("rule(" + kind + ")", NONE, x -> x.rule(kind));
            changes("rule(" + kind + "), none ahead of a fault", NONE, () -> feed(told(), ")"), x -> x.rule(kind));
            changes("rule(" + kind + "), none ahead of full", NONE, () -> feed(fiveRules(), "o"), x -> x.rule(kind));
            changes("rule(" + kind + ") of no bytes", NONE, RosterLanes::new, x -> x.rule(kind));
        }
        says(11, "THE TAPE is a PATTERN: a RULE of a KIND comes: its number");
        for (int kind = 0; kind <= 2; kind++) {
            int told = kind;
            RosterLanes x = new RosterLanes();
            due("rule(" + kind + ")", rule(x, kind, "o"), 0);
            due("its kind", x.sums(10), kind);
            if (told != 1) {
                changes("rule(" + told + "), the third", 2, y -> y.rule(told), "RULES", "MACHINE", "TAPE");
            }
        }
        says(11, "FULL: 5 RULES");
        RosterLanes x = new RosterLanes();
        for (int i = 0; i < 5; i++) {
            due("the rule " + i, rule(x, 2, ".?"), i);
        }
        due("the sixth", rule(x, 2, ".?"), FULL);
        due("rules", x.sums(2), 5);
        due("drop()", x.drop(), 4);
        due("a fifth again", rule(x, 2, ".?"), 4);
    }

    private static RosterLanes fiveRules() {
        RosterLanes x = told();
        x.clear();
        rule(x, 1, "ood");
        rule(x, 2, ".");
        rule(x, 0, ".+");
        return x;
    }

    private static void ruleFaults() {
        says(11, "-100 less the FAULT.");
        changes("rule(0) of no bytes", -100, () -> emptyTape(told()), x -> x.rule(0));
        changes("rule(1), a fault at 4", -104, () -> feed(told(), ")"), x -> x.rule(1), "TAPE");
        changes("rule(2), too early", -105, () -> feed(told(), "|"), x -> x.rule(2), "TAPE");
        String almost = SIXTY.substring(0, 59);
        changes("rule(0), a fault at the last byte", -159, () -> feed(emptyTape(told()), almost + ")"), x -> x.rule(0),
                "TAPE");
        changes("rule(0), 60 bytes that end too early", -160, () -> feed(emptyTape(told()), almost + "|"),
                x -> x.rule(0), "TAPE");
        changes("rule(0), 60 bytes that are a pattern", 2, () -> feed(emptyTape(told()), SIXTY), x -> x.rule(0), "RULES",
                "MACHINE", "TAPE");
        says(11, "behind a FAULT: FULL: 5 RULES, or THE MACHINE (THE TAPE is empty then, too)");
        changes("rule(0) with 5, no bytes", -100, ToldEdgeTest::fiveRules, x -> x.rule(0));
        changes("rule(0) with 5, a fault", -101, () -> feed(fiveRules(), "o)"), x -> x.rule(0), "TAPE");
        changes("rule(0) with 5, a pattern", FULL, () -> feed(fiveRules(), "o"), x -> x.rule(0), "TAPE");
        changes("rule(1) with 5, a pattern", FULL, () -> feed(fiveRules(), "o"), x -> x.rule(1), "TAPE");
        changes("rule(2) with 5, a pattern", FULL, () -> feed(fiveRules(), "o"), x -> x.rule(2), "TAPE");
    }

    private static RosterLanes emptyTape(RosterLanes x) {
        x.clear();
        return x;
    }

    private static void ruleFull() {
        says(11, "or THE MACHINE (THE TAPE is empty then, too)");
        changes("rule(0), 61 states alone", FULL, () -> feed(emptyTape(told()), "o(d|.......)*d"), x -> x.rule(0), "TAPE");
        changes("rule(0), a fault ahead of 61 states", -114, () -> feed(emptyTape(told()), "o(d|.......)*d|"),
                x -> x.rule(0), "TAPE");
        changes("rule(1), 61 states together", FULL, () -> feed(largeRules(), "(d)+o|oe"), x -> x.rule(1), "TAPE");
        RosterLanes x = largeRules();
        due("one too large", rule(x, 1, "(d)+o|oe"), FULL);
        due("another comes all the same", rule(x, 0, ".*"), 2);
    }

    private static RosterLanes largeRules() {
        RosterLanes x = new RosterLanes();
        rule(x, 0, "(d|.....)*d");
        rule(x, 0, "(n((n|.))*)");
        return x;
    }

    private static void drop() {
        says(12, "The latest RULE is gone: how many there are. STATE: there is none.");
        changes("drop()", 1, x -> x.drop(), "RULES", "MACHINE");
        changes("drop() of five", 4, ToldEdgeTest::fiveRules, x -> x.drop(), "RULES");
        changes("drop() of one", 0, () -> withoutLatest(told()), x -> x.drop(), "RULES", "MACHINE");
        changes("drop() of none", STATE, () -> withoutLatest(withoutLatest(told())), x -> x.drop());
        changes("drop() of none", STATE, RosterLanes::new, x -> x.drop());
        RosterLanes x = of(1, 2);
        rule(x, 0, "o.");
        rule(x, 0, ".d");
        due("both", x.count(0, 0), 1);
        x.drop();
        due("the first one stays", x.count(0, 0), 4);
        due("which it is", allows(x, 0, "on"), 1);
        x.drop();
        due("none", x.count(0, 0), 16);
        due("a rule's number again", rule(x, 1, "o"), 0);
    }

    private static RosterLanes withoutLatest(RosterLanes x) {
        x.drop();
        return x;
    }

    private static void row() {
        says(13, "THE TAPE is a ROW: ROSTER's of one: PENALTY; -100 less the FAULT. NONE (THE TAPE stays).");
        for (int one : outside(0, 2)) {
            changes("row(" + one + ")", NONE, () -> feed(emptyTape(told()), "dden"), x -> x.row(one));
            refused("row(" + one + "), none ahead of a fault", NONE, x -> x.row(one));
            changes("row(" + one + ") of no bytes", NONE, () -> emptyTape(told()), x -> x.row(one));
        }
        changes("row(0)", 3, () -> feed(emptyTape(told()), "dden"), x -> x.row(0), "ROSTER", "TAPE");
        changes("row(2)", 8, () -> feed(emptyTape(told()), "deno"), x -> x.row(2), "ROSTER", "TAPE");
        changes("row(0), as it is", 15, () -> feed(emptyTape(told()), "oden"), x -> x.row(0), "TAPE");
        changes("row(0), not accepted", 0, () -> feed(emptyTape(told()), "nnnn"), x -> x.row(0), "ROSTER", "TAPE");
        changes("row(0) of no bytes", -100, () -> emptyTape(told()), x -> x.row(0));
        changes("row(0), one too few", -103, () -> feed(emptyTape(told()), "den"), x -> x.row(0), "TAPE");
        changes("row(0), one too many", -104, () -> feed(emptyTape(told()), "denoo"), x -> x.row(0), "TAPE");
        changes("row(0), another byte", -102, x -> x.row(0), "TAPE");
        changes("row(0), another byte last", -103, () -> feed(emptyTape(told()), "den."), x -> x.row(0), "TAPE");
        changes("row(0), another byte too many", -104, () -> feed(emptyTape(told()), "deno."), x -> x.row(0), "TAPE");
        changes("row(0), 60 bytes", -104, () -> feed(emptyTape(told()), "odenodenodenodenodenodenodenoden"
                + "odenodenodenodenodenodenoden"), x -> x.row(0), "TAPE");
        RosterLanes x = of(6, 14);
        due("row(5) of 14", row(x, 5, "odenodenodenod"), 0);
        same("the row", roster(x, 5), "odenodenodenod");
        due("row(5) of 13", row(x, 5, "nnnnnnnnnnnnn"), -113);
        due("row(5) of 15", row(x, 5, "nnnnnnnnnnnnnnn"), -114);
        same("the row", roster(x, 5), "odenodenodenod");
        x.begin(1, 1);
        due("row(0) of 1", row(x, 0, "n"), 0);
        due("row(0) of 2", row(x, 0, "oo"), -101);
        same("the row", roster(x, 0), "n");
    }

    private static void put() {
        says(14, "SHIFT of one, a DAY, in ROSTER becomes another (or the same): what it was. NONE.");
        for (int one : outside(0, 2)) {
            refused("put(" + one + ", 0, 1)", NONE, x -> x.put(one, 0, 1));
        }
        for (int day : outside(0, 3)) {
            refused("put(0, " + day + ", 1)", NONE, x -> x.put(0, day, 1));
        }
        for (int shift : outside(0, 3)) {
            refused("put(0, 0, " + shift + ")", NONE, x -> x.put(0, 0, shift));
        }
        changes("put(0, 0, 3)", 0, x -> x.put(0, 0, 3), "ROSTER");
        changes("put(2, 3, 3)", 0, x -> x.put(2, 3, 3), "ROSTER");
        changes("put(0, 3, 0)", 3, x -> x.put(0, 3, 0), "ROSTER");
        changes("put(0, 3, 3), the same", 3, x -> x.put(0, 3, 3));
        changes("put(1, 1, 3), no longer accepted", 2, x -> x.put(1, 1, 3), "ROSTER");
    }

    private static void at() {
        says(15, "SHIFT of one, a DAY, in ROSTER. NONE.");
        for (int one : outside(0, 2)) {
            refused("at(" + one + ", 0)", NONE, x -> x.at(one, 0));
        }
        for (int day : outside(0, 3)) {
            refused("at(0, " + day + ")", NONE, x -> x.at(0, day));
        }
        refused("at(0, 0)", 0, x -> x.at(0, 0));
        refused("at(0, 3)", 3, x -> x.at(0, 3));
        refused("at(1, 0)", 3, x -> x.at(1, 0));
        refused("at(2, 1)", 2, x -> x.at(2, 1));
    }
}

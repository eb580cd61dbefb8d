/** Machines: the boundary sentences of promises 16 to 23. */
public final class MachineEdgeTest extends Edge {
    private static final String SIXTY_LETTERS = "odenodenodenodenodenodenodenodenodenodenodenodenodenodenoden";

    public static void main(String[] args) {
        states();
        next();
        run();
        allows();
        count();
        nth();
        ahead();
        may();
        end(16, 23);
    }

    private static RosterLanes emptyTape() {
        RosterLanes x = told();
        x.clear();
        return x;
    }

    /** No ROW of four DAYS is ACCEPTED. */
    private static RosterLanes noRow() {
        RosterLanes x = emptyTape();
        rule(x, 0, "...");
        return x;
    }

    private static void states() {
        says(16, "STATES of THE MACHINE (rule -1), of the least one for a RULE alone. NONE.");
        for (int rule : outside(-1, 1)) {
            refused("states(" + rule + ")", NONE, x -> x.states(rule));
        }
        refused("states(-1)", 4, x -> x.states(-1));
        refused("states(0)", 3, x -> x.states(0));
        refused("states(1)", 2, x -> x.states(1));
        RosterLanes x = new RosterLanes();
        due("no rules: states(-1)", x.states(-1), 1);
        due("no rules: states(0)", x.states(0), NONE);
        for (int i = 0; i < 5; i++) {
            rule(x, 2, "..........".substring(i));
        }
        due("states(0), ten letters", x.states(0), 11);
        due("states(4), six letters", x.states(4), 7);
        due("states(5)", x.states(5), NONE);
        due("all of them", x.states(-1), 11);
        x.drop();
        due("states(4), dropped", x.states(4), NONE);
        due("states(3)", x.states(3), 8);
        rule(x, 1, "o*");
        due("a rule that allows nothing", x.states(4), 1);
        due("the machine then", x.states(-1), 1);
        due("and does not accept", x.next(0, -1), 0);
    }

    private static void next() {
        says(17, "Of THE MACHINE's STATE the next one by a SHIFT; shift -1: whether words that end there are ACCEPTED (1, 0). "
                + "NONE.");
        for (int state : outside(0, 3)) {
            refused("next(" + state + ", 0)", NONE, x -> x.next(state, 0));
            refused("next(" + state + ", 3)", NONE, x -> x.next(state, 3));
            refused("next(" + state + ", -1)", NONE, x -> x.next(state, -1));
        }
        for (int shift : outside(-1, 3)) {
            refused("next(0, " + shift + ")", NONE, x -> x.next(0, shift));
            refused("next(3, " + shift + ")", NONE, x -> x.next(3, shift));
        }
        int[][] due = {{0, 1, 1, 1, 2}, {1, 1, 1, 1, 2}, {1, 1, 1, 1, 3}, {0, 3, 3, 3, 3}};
        for (int state = 0; state < 4; state++) {
            for (int shift = -1; shift < 4; shift++) {
                int of = state;
                int by = shift;
                refused("next(" + of + ", " + by + ")", due[state][shift + 1], x -> x.next(of, by));
            }
        }
        RosterLanes x = new RosterLanes();
        rule(x, 0, "o?(d|.......)*d");
        due("60 states: the last", x.next(59, -1) + x.next(59, 3) >= 0 ? 1 : 0, 1);
        due("60 states: one more", x.next(60, 0), NONE);
        due("60 states: one more", x.next(60, -1), NONE);
    }

    private static void run() {
        says(18, "THE TAPE's bytes are a word (letters o, d, e, n, none to 60): the STATE behind it; -100 less the place of "
                + "the first other byte.");
        changes("run() of no bytes", 0, MachineEdgeTest::emptyTape, x -> x.run());
        changes("run() of 1", 2, () -> feed(emptyTape(), "n"), x -> x.run(), "TAPE");
        changes("run() of 60", 2, () -> feed(emptyTape(), SIXTY_LETTERS), x -> x.run(), "TAPE");
        changes("run() of 60, lost", 3, () -> feed(emptyTape(), "nn" + SIXTY_LETTERS.substring(2)), x -> x.run(), "TAPE");
        changes("run(), another byte", -102, x -> x.run(), "TAPE");
        changes("run(), another byte first", -100, () -> feed(emptyTape(), ".od"), x -> x.run(), "TAPE");
        changes("run(), another byte last", -103, () -> feed(emptyTape(), "ode."), x -> x.run(), "TAPE");
        changes("run(), the byte 59", -159, () -> feed(emptyTape(), SIXTY_LETTERS.substring(1) + "x"), x -> x.run(), "TAPE");
        changes("run(), the first of two", -101, () -> feed(emptyTape(), "o||d"), x -> x.run(), "TAPE");
        changes("run(), another byte behind what is lost", -102, () -> feed(emptyTape(), "nn."), x -> x.run(), "TAPE");
        for (int letter = 1; letter <= 127; letter++) {
            RosterLanes x = emptyTape();
            x.feed('o');
            x.feed(letter);
            int state = letter == 'o' || letter == 'd' || letter == 'e' ? 1 : letter == 'n' ? 2 : -101;
            due("run() of o and the byte " + letter, x.run(), state);
            due("bytes of the tape", x.sums(3), 0);
        }
    }

    private static void allows() {
        says(19, "Whether a RULE ALLOWS the word on THE TAPE: 1, 0; -100 less likewise. NONE (THE TAPE stays).");
        for (int rule : outside(0, 1)) {
            changes("allows(" + rule + ")", NONE, () -> feed(emptyTape(), "o"), x -> x.allows(rule));
            refused("allows(" + rule + "), none ahead of another byte", NONE, x -> x.allows(rule));
            changes("allows(" + rule + ") of no bytes", NONE, MachineEdgeTest::emptyTape, x -> x.allows(rule));
        }
        changes("allows(0) without a rule", NONE, () -> feed(new RosterLanes(), "o"), x -> x.allows(0));
        changes("allows(0) of no bytes", 1, MachineEdgeTest::emptyTape, x -> x.allows(0));
        changes("allows(1) of no bytes", 0, MachineEdgeTest::emptyTape, x -> x.allows(1));
        changes("allows(0)", 0, () -> feed(emptyTape(), "onn"), x -> x.allows(0), "TAPE");
        changes("allows(1), the rule alone", 1, () -> feed(emptyTape(), "onn"), x -> x.allows(1), "TAPE");
        changes("allows(0) of 60", 1, () -> feed(emptyTape(), SIXTY_LETTERS), x -> x.allows(0), "TAPE");
        changes("allows(0) of 60", 0, () -> feed(emptyTape(), SIXTY_LETTERS.substring(2) + "nn"), x -> x.allows(0), "TAPE");
        changes("allows(0), another byte", -102, x -> x.allows(0), "TAPE");
        changes("allows(1), another byte first", -100, () -> feed(emptyTape(), "|"), x -> x.allows(1), "TAPE");
        changes("allows(1), the byte 59", -159, () -> feed(emptyTape(), SIXTY_LETTERS.substring(1) + "x"),
                x -> x.allows(1), "TAPE");
        RosterLanes x = new RosterLanes();
        for (int i = 0; i < 5; i++) {
            rule(x, 2, "oden.".substring(i));
        }
        due("allows(4)", allows(x, 4, "n"), 1);
        due("allows(3)", allows(x, 3, "n"), 0);
        due("allows(5)", allows(x, 5, "n"), NONE);
        due("the tape stays", x.clear(), 1);
    }

    private static void count() {
        says(20, "How many ROWS are ACCEPTED that begin as ROSTER's of one does for k DAYS (0 .. T). NO: one, k.");
        for (int one : outside(0, 2)) {
            refused("count(" + one + ", 0)", NO, x -> x.count(one, 0));
        }
        for (int k : outside(0, 4)) {
            refused("count(0, " + k + ")", NO, x -> x.count(0, k));
        }
        refused("count(0, 0)", 216, x -> x.count(0, 0));
        refused("count(0, 1)", 57, x -> x.count(0, 1));
        refused("count(1, 1), behind an n", 45, x -> x.count(1, 1));
        refused("count(0, 3)", 4, x -> x.count(0, 3));
        refused("count(0, 4), the row itself", 1, x -> x.count(0, 4));
        refused("count(2, 4), the row itself", 1, x -> x.count(2, 4));
        RosterLanes x = emptyTape();
        row(x, 2, "eonn");
        due("count(2, 3)", x.count(2, 3), 3);
        due("count(2, 4), not accepted", x.count(2, 4), 0);
        row(x, 2, "nnoo");
        due("count(2, 1)", x.count(2, 1), 45);
        due("count(2, 2), lost", x.count(2, 2), 0);
        due("no row at all", noRow().count(0, 0), 0);
        RosterLanes y = of(6, 14);
        due("all rows of 14 days", y.count(5, 0), 268435456L);
        due("the last day open", y.count(5, 13), 4);
        due("one row", y.count(5, 14), 1);
        due("k above T", y.count(5, 15), NO);
        y.begin(1, 1);
        due("all rows of a day", y.count(0, 0), 4);
        due("one row", y.count(0, 1), 1);
        due("k above T", y.count(0, 2), NO);
    }

    private static void nth() {
        says(21, "Of the i-th ACCEPTED ROW in order the SHIFT of a DAY. NONE: day, no i-th.");
        for (int day : outside(0, 3)) {
            refused("nth(0, " + day + ")", NONE, x -> x.nth(0, day));
            refused("nth(216, " + day + "), neither", NONE, x -> x.nth(216, day));
        }
        long[] none = {-1, 216, 217, Long.MIN_VALUE, Long.MAX_VALUE, 1L << 32, (1L << 32) + 5, -(1L << 32), 1L << 31,
            -1L << 31, 5L << 40, (1L << 63) + 7};
        for (long i : none) {
            refused("nth(" + i + ", 0)", NONE, x -> x.nth(i, 0));
            refused("nth(" + i + ", 3)", NONE, x -> x.nth(i, 3));
        }
        String[] shifts = {"oooo", "nene"};
        for (int day = 0; day < 4; day++) {
            int of = day;
            refused("nth(0, " + of + ")", LETTERS.indexOf(shifts[0].charAt(of)), x -> x.nth(0, of));
            refused("nth(215, " + of + ")", LETTERS.indexOf(shifts[1].charAt(of)), x -> x.nth(215, of));
        }
        due("no row at all", noRow().nth(0, 0), NONE);
        RosterLanes x = of(1, 14);
        same("the last of all", nth(x, 268435455L), "nnnnnnnnnnnnnn");
        due("one more", x.nth(268435456L, 13), NONE);
        x.begin(1, 1);
        same("the first", nth(x, 0), "o");
        same("the last", nth(x, 3), "n");
        due("one more", x.nth(4, 0), NONE);
        rule(x, 0, "e");
        same("the only one", nth(x, 0), "e");
        due("no second", x.nth(1, 0), NONE);
    }

    private static void ahead() {
        says(22, "How many ACCEPTED ROWS are ahead of ROSTER's of one. NO.");
        for (int one : outside(0, 2)) {
            refused("ahead(" + one + ")", NO, x -> x.ahead(one));
        }
        refused("ahead(0)", 26, x -> x.ahead(0));
        RosterLanes x = emptyTape();
        row(x, 2, "oooo");
        due("ahead of the first", x.ahead(2), 0);
        row(x, 2, "nene");
        due("ahead of the last", x.ahead(2), 215);
        row(x, 2, "nenn");
        due("behind the last, not accepted", x.ahead(2), 216);
        row(x, 2, "nnnn");
        due("the last row of all, not accepted", x.ahead(2), 216);
        row(x, 2, "nnoo");
        due("not accepted, behind all", x.ahead(2), 216);
        row(x, 2, "onno");
        due("not accepted, amid", x.ahead(2), 57);
        due("no row at all", noRow().ahead(1), 0);
        RosterLanes y = of(6, 14);
        row(y, 5, "nnnnnnnnnnnnnn");
        due("ahead of the last", y.ahead(5), 268435455L);
        y.begin(1, 1);
        due("ahead of the first", y.ahead(0), 0);
    }

    private static void may() {
        says(23, "SHIFTS (bits) that may come on a DAY, the DAYS ahead being as in ROSTER of one, so that an ACCEPTED ROW can "
                + "come of it. NONE.");
        for (int one : outside(0, 2)) {
            refused("may(" + one + ", 0)", NONE, x -> x.may(one, 0));
        }
        for (int day : outside(0, 3)) {
            refused("may(0, " + day + ")", NONE, x -> x.may(0, day));
        }
        refused("may(0, 0)", 15, x -> x.may(0, 0));
        refused("may(1, 1), behind an n", 7, x -> x.may(1, 1));
        refused("may(0, 3)", 15, x -> x.may(0, 3));
        RosterLanes x = emptyTape();
        row(x, 2, "onnn");
        due("may(2, 1)", x.may(2, 1), 15);
        due("may(2, 2)", x.may(2, 2), 7);
        due("may(2, 3), lost ahead of it", x.may(2, 3), 0);
        due("no row at all", noRow().may(0, 0), 0);
        RosterLanes y = of(1, 2);
        rule(y, 0, "o(d|n)|en|do.");
        due("a shift that leads to no row of so many days", y.may(0, 0), 5);
        due("behind an o", y.may(0, 1), 10);
        y.begin(1, 1);
        rule(y, 0, "n");
        due("nothing is left", y.may(0, 0), 0);
        y.drop();
        y.drop();
        due("the only day", y.may(0, 0), 15);
        due("no day 1", y.may(0, 1), NONE);
    }
}

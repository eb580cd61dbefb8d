/** Told rows, texts, LISTS, THE IMAGE: the boundary sentences of promises 36 to 45. */
public final class TextEdgeTest extends Edge {
    public static void main(String[] args) {
        judge();
        judgeDays();
        judgeLongs();
        lay();
        layOrder();
        layPlaces();
        spell();
        paper();
        sums();
        list();
        set();
        get();
        image();
        undo();
        undoAll();
        end(36, 45);
    }

    /** No ROW of four DAYS is ACCEPTED. */
    private static RosterLanes noRow() {
        RosterLanes x = told();
        x.clear();
        rule(x, 0, "...");
        return feed(x, "od|e");
    }

    private static void judge() {
        says(36, "NONE: list; NOTHING; BEYOND: it ends ahead of the last DAY (or the place is below 0); BAD: a number isn't a "
                + "SHIFT.");
        for (int list : outside(0, 3)) {
            refused("judge(" + list + ", 0)", NONE, x -> x.judge(list, 0));
            refused("judge(" + list + ", -1), none ahead of beyond", NONE, x -> x.judge(list, -1));
        }
        int[] places = {0, 1, -1, 30, LEAST, MOST};
        for (int i : places) {
            refused("judge(2, " + i + ")", NOTHING, x -> x.judge(2, i));
            refused("judge(1, " + i + ") of no longs", BEYOND, x -> x.judge(1, i));
            refused("judge(3, " + i + "), beyond ahead of bad", BEYOND, x -> x.judge(3, i));
            changes("judge(2, " + i + ") without a row", NOTHING, TextEdgeTest::noRow, x -> x.judge(2, i));
            changes("judge(3, " + i + ") without a row", BEYOND, TextEdgeTest::noRow, x -> x.judge(3, i));
        }
        for (int i : outside(0, 1)) {
            refused("judge(0, " + i + ")", BEYOND, x -> x.judge(0, i));
        }
        refused("judge(0, 0), the first place", THERE_IS_NONE, x -> x.judge(0, 0));
        refused("judge(0, 1), the last place", BAD, x -> x.judge(0, 1));
        changes("judge(0, 0) without a row", 0, TextEdgeTest::noRow, x -> x.judge(0, 0));
        changes("judge(0, 1), bad ahead of lost", BAD, TextEdgeTest::noRow, x -> x.judge(0, 1));
        RosterLanes x = of(1, 14);
        x.list(3, 30);
        due("judge(3, 16), the last 14 of 30", x.judge(3, 16), THERE_IS_NONE);
        due("judge(3, 17)", x.judge(3, 17), BEYOND);
        x.begin(1, 1);
        due("judge(3, 29), the last of 30", x.judge(3, 29), THERE_IS_NONE);
        due("judge(3, 30)", x.judge(3, 30), BEYOND);
    }

    private static void judgeDays() {
        says(36, "A TOLD ROW: the DAY on which it is LOST; -5: it is ACCEPTED.");
        RosterLanes x = told();
        long[][] rows = {{3, 3, 3, 3}, {0, 3, 3, 0}, {0, 0, 3, 3}, {3, 0, 3, 0}, {0, 0, 0, 0}};
        int[] due = {1, 2, 3, THERE_IS_NONE, THERE_IS_NONE};
        for (int i = 0; i < rows.length; i++) {
            list(x, 0, rows[i]);
            due("the row " + i, x.judge(0, 0), due[i]);
        }
        RosterLanes y = of(1, 3);
        list(y, 0, 1, 2, 3);
        rule(y, 0, "o..");
        due("on the first day", y.judge(0, 0), 0);
        y.drop();
        rule(y, 0, "..n");
        due("not lost on the last", y.judge(0, 0), THERE_IS_NONE);
        y.drop();
        rule(y, 0, "..d");
        due("on the last day", y.judge(0, 0), 2);
        y.drop();
        rule(y, 0, "d(e|n.)");
        due("where too few days are left", y.judge(0, 0), 1);
        y.drop();
        rule(y, 0, "....");
        due("there is no row at all", y.judge(0, 0), 0);
        y.drop();
        rule(y, 1, ".*");
        due("nothing is allowed", y.judge(0, 0), 0);
    }

    private static void judgeLongs() {
        says(36, "BAD: a number isn't a SHIFT.");
        long[] bad = {-1, 4, Long.MIN_VALUE, Long.MAX_VALUE, 1L << 32, (1L << 32) + 3, -(1L << 32), 256, 65536};
        for (long v : bad) {
            for (int day = 0; day < 3; day++) {
                RosterLanes x = of(1, 3);
                x.list(0, 5);
                x.set(0, 1 + day, v);
                due("judge(0, 1) with " + v + " on day " + day, x.judge(0, 1), BAD);
                rule(x, 0, "n..");
                due("ahead of where it is lost", x.judge(0, 1), BAD);
            }
            RosterLanes y = of(1, 3);
            y.list(0, 5);
            y.set(0, 0, v);
            y.set(0, 4, v);
            due("what stands beside it does not matter", y.judge(0, 1), THERE_IS_NONE);
        }
        for (long v = 0; v <= 3; v++) {
            RosterLanes x = of(1, 1);
            list(x, 3, v);
            due("a shift " + v, x.judge(3, 0), THERE_IS_NONE);
        }
    }

    private static void lay() {
        says(37, "BEST of one is laid into a LIST from i on: T. NONE: one, list; NOTHING; STATE: no ROW is ACCEPTED; BEYOND: "
                + "not all were (those that had a place are there all the same; none, if i is below 0).");
        for (int one : outside(0, 2)) {
            refused("lay(0, 0, " + one + ")", NONE, x -> x.lay(0, 0, one));
            refused("lay(2, 0, " + one + "), none ahead of nothing", NONE, x -> x.lay(2, 0, one));
            refused("lay(0, -1, " + one + "), none ahead of beyond", NONE, x -> x.lay(0, -1, one));
        }
        for (int list : outside(0, 3)) {
            refused("lay(" + list + ", 0, 0)", NONE, x -> x.lay(list, 0, 0));
            refused("lay(" + list + ", -1, 0), none ahead of beyond", NONE, x -> x.lay(list, -1, 0));
            changes("lay(" + list + ", 0, 0) without a row", NONE, TextEdgeTest::noRow, x -> x.lay(list, 0, 0));
        }
        int[] places = {0, 1, -1, 30, LEAST, MOST};
        for (int i : places) {
            refused("lay(2, " + i + ", 0)", NOTHING, x -> x.lay(2, i, 0));
            refused("lay(1, " + i + ", 0) of no longs", BEYOND, x -> x.lay(1, i, 0));
        }
        for (int i : outside(0, 4)) {
            refused("lay(0, " + i + ", 0), no place", BEYOND, x -> x.lay(0, i, 0));
        }
        changes("lay(0, 0, 0)", 4, x -> x.lay(0, 0, 0), "LISTS");
        changes("lay(0, 1, 2), to the last place", 4, x -> x.lay(0, 1, 2), "LISTS");
        changes("lay(0, 2, 0), one too few", BEYOND, x -> x.lay(0, 2, 0), "LISTS");
        changes("lay(0, 4, 0), one place", BEYOND, x -> x.lay(0, 4, 0), "LISTS");
        changes("lay(3, 0, 0), two places", BEYOND, x -> x.lay(3, 0, 0), "LISTS");
    }

    private static void layOrder() {
        says(37, "NONE: one, list; NOTHING; STATE: no ROW is ACCEPTED; BEYOND");
        changes("lay(0, 0, 3) without a row", NONE, TextEdgeTest::noRow, x -> x.lay(0, 0, 3));
        changes("lay(2, 0, 0) without a row", NOTHING, TextEdgeTest::noRow, x -> x.lay(2, 0, 0));
        changes("lay(2, -1, 0) without a row", NOTHING, TextEdgeTest::noRow, x -> x.lay(2, -1, 0));
        changes("lay(0, 0, 0) without a row", STATE, TextEdgeTest::noRow, x -> x.lay(0, 0, 0));
        changes("lay(0, 2, 0) without a row", STATE, TextEdgeTest::noRow, x -> x.lay(0, 2, 0));
        changes("lay(0, -1, 0) without a row", STATE, TextEdgeTest::noRow, x -> x.lay(0, -1, 0));
        changes("lay(1, 0, 0) without a row", STATE, TextEdgeTest::noRow, x -> x.lay(1, 0, 0));
        changes("lay(0, " + MOST + ", 0) without a row", STATE, TextEdgeTest::noRow, x -> x.lay(0, MOST, 0));
    }

    private static void layPlaces() {
        says(37, "those that had a place are there all the same; none, if i is below 0");
        String[] due = {"1 0 0 0 7", "0 1 0 0 0", "0 1 1 0 0", "0 1 2 1 0", "0 1 2 3 1", "0 1 2 3 7"};
        for (int i = 0; i <= 5; i++) {
            RosterLanes x = told();
            due("lay(0, " + i + ", 0)", x.lay(0, i, 0), i <= 1 ? 4 : BEYOND);
            same("the list", listText(x, 0), BEYOND + ": " + due[i]);
        }
        for (int i = -1; i >= -5; i--) {
            RosterLanes x = told();
            due("lay(0, " + i + ", 0)", x.lay(0, i, 0), BEYOND);
            same("the list", listText(x, 0), BEYOND + ": 0 1 2 3 7");
        }
        RosterLanes x = of(6, 14);
        rule(x, 0, "n*");
        x.list(3, 30);
        due("lay(3, 16, 5), the last 14 of 30", x.lay(3, 16, 5), 14);
        due("the place ahead of it", x.get(3, 15), 0);
        due("the first place", x.get(3, 16), 3);
        due("the last place", x.get(3, 29), 3);
        x.list(3, 30);
        due("lay(3, 17, 5)", x.lay(3, 17, 5), BEYOND);
        due("the first place", x.get(3, 17), 3);
        due("the last place", x.get(3, 29), 3);
        due("another list", x.get(2, 0), NO);
        x.list(2, 14);
        due("lay(2, 0, 5), just so many", x.lay(2, 0, 5), 14);
    }

    private static void spell() {
        says(38, "THE PAPER becomes a RULE's PATTERN (kind 0), a ROW of ROSTER (kind 1) SPELLED: how many bytes. NONE.");
        for (int kind : outside(0, 1)) {
            refused("spell(" + kind + ", 0)", NONE, x -> x.spell(kind, 0));
        }
        for (int k : outside(0, 1)) {
            refused("spell(0, " + k + ")", NONE, x -> x.spell(0, k));
        }
        for (int k : outside(0, 2)) {
            refused("spell(1, " + k + ")", NONE, x -> x.spell(1, k));
        }
        changes("spell(0, 0)", 2, x -> x.spell(0, 0), "PAPER");
        changes("spell(0, 1), as it is", 10, x -> x.spell(0, 1));
        changes("spell(1, 0)", 4, x -> x.spell(1, 0), "PAPER");
        changes("spell(1, 2)", 4, x -> x.spell(1, 2), "PAPER");
        RosterLanes x = of(6, 14);
        due("spell(0, 0) without a rule", x.spell(0, 0), NONE);
        row(x, 5, "odenodenodenod");
        due("the longest row", x.spell(1, 5), 14);
        same("the paper", paper(x), "odenodenodenod");
        rule(x, 0, SIXTY);
        due("the longest pattern", x.spell(0, 0), 60);
        same("the paper", paper(x), SIXTY);
        for (int i = 1; i < 5; i++) {
            rule(x, 2, "o?");
        }
        due("the last rule", x.spell(0, 4), 2);
        due("no rule 5", x.spell(0, 5), NONE);
        same("the paper", paper(x), "o?");
        x.begin(1, 1);
        due("the shortest row", x.spell(1, 0), 1);
        same("the paper", paper(x), "o");
    }

    private static void paper() {
        says(39, "Byte i of THE PAPER. NONE.");
        for (int i : outside(0, 9)) {
            refused("paper(" + i + ")", NONE, x -> x.paper(i));
        }
        refused("paper(0)", '(', x -> x.paper(0));
        refused("paper(9)", '+', x -> x.paper(9));
        RosterLanes x = new RosterLanes();
        due("nothing at first", x.paper(0), NONE);
        rule(x, 0, SIXTY);
        due("nothing yet", x.paper(0), NONE);
        x.spell(0, 0);
        due("paper(59)", x.paper(59), '?');
        due("paper(60)", x.paper(60), NONE);
        x.begin(1, 1);
        x.spell(1, 0);
        due("paper(0)", x.paper(0), 'o');
        due("nothing is left of the longer one", x.paper(1), NONE);
    }

    private static void sums() {
        says(40, "What 0 p, 1 T, 2 RULES, 3 bytes of THE TAPE, 4 of THE PAPER, 5 all PENALTIES of ROSTER, 10 .. 14 KIND of a "
                + "RULE (what less 10). NONE.");
        int[] due = {3, 4, 2, 4, 10, 26, NONE, NONE, NONE, NONE, 1, 0, NONE, NONE, NONE, NONE};
        for (int what = 0; what < due.length; what++) {
            int of = what;
            refused("sums(" + of + ")", due[what], x -> x.sums(of));
        }
        for (int what : outside(0, 5)) {
            if (what != 10 && what != 11) {
                refused("sums(" + what + ")", NONE, x -> x.sums(what));
            }
        }
        for (int what : outside(10, 11)) {
            if (what < 0 || what > 5) {
                refused("sums(" + what + ")", NONE, x -> x.sums(what));
            }
        }
        RosterLanes x = new RosterLanes();
        for (int i = 0; i < 5; i++) {
            due("sums(" + (10 + i) + ") without it", x.sums(10 + i), NONE);
            rule(x, (i + 2) % 3, "eeee?");
            due("sums(" + (10 + i) + ")", x.sums(10 + i), (i + 2) % 3);
        }
        due("sums(9)", x.sums(9), NONE);
        due("sums(15)", x.sums(15), NONE);
        due("sums(2)", x.sums(2), 5);
        x.drop();
        due("sums(14), dropped", x.sums(14), NONE);
        feed(x, SIXTY);
        due("sums(3), a full tape", x.sums(3), 60);
        x.rule(0);
        due("sums(3), it was read", x.sums(3), 0);
    }

    private static void list() {
        says(41, "A LIST becomes a row of n longs, all 0: 1. NONE: list; BAD: n above 30; BELOW.");
        for (int list : outside(0, 3)) {
            refused("list(" + list + ", 1)", NONE, x -> x.list(list, 1));
            refused("list(" + list + ", 31), none ahead of bad", NONE, x -> x.list(list, 31));
            refused("list(" + list + ", -1), none ahead of below", NONE, x -> x.list(list, -1));
        }
        for (int n : outside(0, 30)) {
            for (int list = 0; list < 4; list++) {
                int of = list;
                refused("list(" + of + ", " + n + ")", n > 30 ? BAD : BELOW, x -> x.list(of, n));
            }
        }
        changes("list(0, 0)", 1, x -> x.list(0, 0), "LISTS");
        changes("list(0, 30)", 1, x -> x.list(0, 30), "LISTS");
        changes("list(2, 0)", 1, x -> x.list(2, 0), "LISTS");
        changes("list(3, 30)", 1, x -> x.list(3, 30), "LISTS");
        changes("list(1, 0), as it is", 1, x -> x.list(1, 0));
        RosterLanes x = new RosterLanes();
        for (int list = 0; list < 4; list++) {
            x.list(list, 30);
            for (int i = 0; i < 30; i++) {
                x.set(list, i, list * 100 + i + 1);
            }
        }
        x.list(1, 0);
        due("no place", x.get(1, 0), NO);
        x.list(1, 30);
        for (int i = 0; i < 30; i++) {
            due("all 0", x.get(1, i), 0);
            due("the list ahead", x.get(0, i), i + 1);
            due("the list behind", x.get(2, i), 200 + i + 1);
        }
        due("no place 30", x.get(1, 30), NO);
    }

    private static void set() {
        says(42, "Place i of a LIST becomes v: 1. NONE; NOTHING; BEYOND.");
        for (int list : outside(0, 3)) {
            refused("set(" + list + ", 0, 1)", NONE, x -> x.set(list, 0, 1));
            refused("set(" + list + ", -1, 1), none ahead of beyond", NONE, x -> x.set(list, -1, 1));
        }
        int[] places = {0, 1, -1, 30, LEAST, MOST};
        for (int i : places) {
            refused("set(2, " + i + ", 1)", NOTHING, x -> x.set(2, i, 1));
            refused("set(1, " + i + ", 1) of no longs", BEYOND, x -> x.set(1, i, 1));
        }
        for (int i : outside(0, 4)) {
            refused("set(0, " + i + ", 1)", BEYOND, x -> x.set(0, i, 1));
        }
        changes("set(0, 0, 9)", 1, x -> x.set(0, 0, 9), "LISTS");
        changes("set(0, 4, 9)", 1, x -> x.set(0, 4, 9), "LISTS");
        changes("set(3, 1, 9)", 1, x -> x.set(3, 1, 9), "LISTS");
        changes("set(0, 4, 7), as it is", 1, x -> x.set(0, 4, 7));
        long[] values = {Long.MIN_VALUE, Long.MAX_VALUE, -1, 0, 1L << 32, -(1L << 32)};
        RosterLanes x = new RosterLanes();
        x.list(3, 30);
        for (long v : values) {
            due("set(3, 29, " + v + ")", x.set(3, 29, v), 1);
            due("get(3, 29)", x.get(3, 29), v);
        }
        due("set(3, 30, 1)", x.set(3, 30, 1), BEYOND);
    }

    private static void get() {
        says(43, "Place i of a LIST. NO: no such LIST, nothing there, no such place.");
        for (int list : outside(0, 3)) {
            refused("get(" + list + ", 0)", NO, x -> x.get(list, 0));
        }
        int[] places = {0, 1, -1, 30, LEAST, MOST};
        for (int i : places) {
            refused("get(2, " + i + "), nothing there", NO, x -> x.get(2, i));
            refused("get(1, " + i + ") of no longs", NO, x -> x.get(1, i));
        }
        for (int i : outside(0, 4)) {
            refused("get(0, " + i + ")", NO, x -> x.get(0, i));
        }
        refused("get(0, 0)", 0, x -> x.get(0, 0));
        refused("get(0, 4)", 7, x -> x.get(0, 4));
        refused("get(3, 0)", -5, x -> x.get(3, 0));
        refused("get(3, 1)", Long.MAX_VALUE, x -> x.get(3, 1));
    }

    private static void image() {
        says(44, "THE IMAGE is taken: how many RULES.");
        changes("image()", 2, x -> x.image(), "IMAGE");
        changes("image(), the first", 0, RosterLanes::new, x -> x.image(), "IMAGE");
        RosterLanes x = new RosterLanes();
        for (int i = 0; i < 5; i++) {
            due("image() with " + i, x.image(), i);
            rule(x, 2, "o?");
        }
        due("image() with 5", x.image(), 5);
        x.put(0, 0, 3);
        x.image();
        x.put(0, 0, 2);
        x.undo();
        due("the latest image", x.at(0, 0), 3);
    }

    private static void undo() {
        says(45, "All is as THE IMAGE: how many RULES. STATE: there is none.");
        changes("undo() without an image", STATE, RosterLanes::new, x -> x.undo());
        changes("undo() without an image", STATE, () -> of(6, 14), x -> x.undo());
        changes("undo()", 1, x -> x.undo(), "P", "T", "WISHES", "NEEDS", "CHANGES", "ROSTER", "RULES", "MACHINE");
        changes("undo() again", 1, TextEdgeTest::undone, x -> x.undo());
        changes("undo() behind begin", 1, () -> begun(undone(), 6, 14), x -> x.undo(), "P", "T", "WISHES", "NEEDS", "ROSTER");
        changes("undo() of a refused call", 1, TextEdgeTest::undone, x -> Math.min(x.begin(0, 0) + 3, x.undo()));
        RosterLanes x = new RosterLanes();
        x.image();
        due("undo() of no rules", x.undo(), 0);
        for (int i = 0; i < 5; i++) {
            rule(x, 2, "o?");
        }
        due("undo() of five", x.undo(), 0);
        due("rules", x.sums(2), 0);
        due("there is an image still", x.undo(), 0);
        undoRules();
    }

    /** RULES that come behind undo() come to those of THE IMAGE, not to those that were told since. */
    private static void undoRules() {
        RosterLanes x = of(1, 2);
        rule(x, 0, "o.");
        x.image();
        x.drop();
        rule(x, 0, "d.");
        due("undo()", x.undo(), 1);
        due("the rule of the image", x.count(0, 0), 4);
        due("another comes to it", rule(x, 0, ".n"), 1);
        due("both", x.count(0, 0), 1);
        same("both", nth(x, 0), "on");
        due("drop()", x.drop(), 1);
        same("the rule of the image", nth(x, 3), "on");
    }

    private static RosterLanes undone() {
        RosterLanes x = told();
        x.undo();
        return x;
    }

    private static RosterLanes begun(RosterLanes x, int people, int days) {
        x.begin(people, days);
        return x;
    }

    /** What is told behind undo() does not come into THE IMAGE, nor what was told behind image(). */
    private static void undoAll() {
        says(45, "All is as THE IMAGE");
        RosterLanes x = told();
        for (int time = 0; time < 3; time++) {
            due("undo()", x.undo(), 1);
            due("p", x.sums(0), 2);
            due("T", x.sums(1), 3);
            due("its kind", x.sums(10), 2);
            due("wished", x.wished(1, 2, 3), 9);
            due("changed", x.changed(0, 1), 8);
            due("changed", x.changed(3, 3), 2);
            due("needed", x.needed(2, 1), 2);
            same("rows", roster(x, 0) + " " + roster(x, 1), "ooo den");
            due("accepted", x.count(0, 0), 32);
            x.wish(1, 2, 3, 0);
            x.change(0, 1, 0);
            x.need(2, 1, 0);
            x.put(1, 2, 0);
            x.drop();
            feed(x, "");
            x.clear();
            rule(x, 1, "o");
            due("accepted", x.count(0, 0), 27);
        }
    }
}

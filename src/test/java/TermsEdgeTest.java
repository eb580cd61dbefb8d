/** The boundary sentences of the Terms, of "Answers" and of "More precisely", ahead of the promises. */
public final class TermsEdgeTest extends Edge {
    public static void main(String[] args) {
        shiftsDaysPeople();
        parts();
        brackets();
        letters();
        faults();
        matches();
        whole();
        never();
        begins();
        rules();
        accepted();
        theMachine();
        numbers();
        statesAlone();
        placesSideBySide();
        statesTogether();
        penalty();
        order();
        best();
        need();
        aMend();
        theMend();
        repaired();
        aSwap();
        theSwap();
        tape();
        rowText();
        spelled();
        lists();
        toldRow();
        lost();
        theImage();
        answers();
        asked();
        manyCalls();
        end(0, 0);
    }

    private static void shiftsDaysPeople() {
        says(0, "SHIFTS 0 .. 3, as letters o, d, e, n. DAYS 0 .. T - 1, T 1 .. 14 (7 at first). PEOPLE 0 .. p - 1, p 1 .. 6 (2 "
                + "at first). A ROW has a SHIFT for each DAY.");
        RosterLanes x = new RosterLanes();
        due("T at first", x.sums(1), 7);
        due("p at first", x.sums(0), 2);
        for (int t = 0; t <= 15; t++) {
            boolean is = t >= 1 && t <= 14;
            due("begin(1, " + t + ")", of(1, 2).begin(1, t), is ? 1 : BAD);
            RosterLanes y = of(1, t);
            int days = is ? t : 7;
            due("the last day of " + days, y.at(0, days - 1), 0);
            due("no day " + days, y.at(0, days), NONE);
            due("a row has a shift for each", y.spell(1, 0), days);
        }
        for (int p = 0; p <= 7; p++) {
            boolean is = p >= 1 && p <= 6;
            due("begin(" + p + ", 1)", of(4, 1).begin(p, 1), is ? 4 : BAD);
            RosterLanes y = of(p, 1);
            int people = is ? p : 2;
            due("the last of " + people, y.at(people - 1, 0), 0);
            due("no one " + people, y.at(people, 0), NONE);
        }
        RosterLanes y = of(1, 4);
        row(y, 0, LETTERS);
        for (int shift = 0; shift < 4; shift++) {
            due("the shift of a letter", y.at(0, shift), shift);
        }
    }

    /** A rule's answer is its FAULT's, or 0. */
    private static void fault(String text, int place) {
        for (int kind = 0; kind < 3; kind++) {
            RosterLanes x = new RosterLanes();
            due("rule(" + kind + ") of " + text, rule(x, kind, text), place < 0 ? 0 : -100 - place);
            due("the tape is empty behind " + text, x.sums(3), 0);
        }
    }

    private static void parts() {
        says(0, "E: S, or S|E.");
        fault("o|d", -1);
        fault("o|d|e|n|.", -1);
        fault("", 0);
        fault("|", 0);
        fault("|o", 0);
        fault("o|", 2);
        fault("o||d", 2);
        fault("o|d|", 4);
        fault("o|)", 2);
        says(0, "S: one F or more, one behind the other.");
        fault("o", -1);
        fault("od", -1);
        fault("o*d+e?n.", -1);
        fault("(o)(d)e(n)", -1);
        says(0, "F: an A, perhaps one of * + ? behind it.");
        for (String sign : new String[] {"*", "+", "?"}) {
            fault("o" + sign, -1);
            fault("." + sign, -1);
            fault("(o)" + sign, -1);
            fault(sign, 0);
            fault("(" + sign, 1);
            fault("o|" + sign, 2);
            for (String other : new String[] {"*", "+", "?"}) {
                fault("o" + sign + other, 2);
                fault("(o)" + sign + other, 4);
                fault("(o" + sign + ")" + other, -1);
            }
        }
        says(0, "A: a letter o, d, e, n; . (any SHIFT); or (E)");
        for (int letter = 1; letter <= 127; letter++) {
            boolean is = "oden.".indexOf(letter) >= 0;
            fault("" + (char) letter, is ? -1 : letter == '(' ? 1 : 0);
            fault("d" + (char) letter, is || "*+?".indexOf(letter) >= 0 ? -1 : "(|".indexOf(letter) >= 0 ? 2 : 1);
        }
        fault("()", 1);
        fault("(o", 2);
        fault("(o|d)", -1);
        fault("(o|)", 3);
        fault("(|o)", 1);
        fault("o)", 1);
        fault("(o))", 3);
    }

    private static void brackets() {
        says(0, "(E), which may stand within 4 others at most (the ( of one within 5 can't stand).");
        fault("(((((o)))))", -1);
        fault("((((((o))))))", 5);
        fault("((((((", 5);
        fault("(((((", 5);
        fault("o((((d(", 7);
        fault("o((((d((", 7);
        fault("o((((((d", 6);
        fault("o|((((((d", 7);
        fault("(((((o|(", 7);
        fault("(((((o(d", 6);
        fault("(((((o)", 7);
        fault("(((((o)(d)", 7 + 3);
        fault("(((((o)(d))))(((((", 17);
        says(0, "A ( can stand within four others: five open at once are the most.");
        fault("(((((o)))))(((((d)))))", -1);
        fault("(((((o)(d)(e)))))", -1);
        fault("(((((o)))))((((((", 16);
        fault("(o)(d)(e)(n)(o)(d)(e)", -1);
        fault("((((o)(d))(e))(n))((((.))))", -1);
    }

    private static void letters() {
        says(0, "Letters and . are 10 at most in all (the 11th can't stand).");
        fault("ooooo.....", -1);
        fault("ooooo.....o", 10);
        fault("ooooo......", 10);
        fault("o*o*o*o*o*o*o*o*o*o*", -1);
        fault("o*o*o*o*o*o*o*o*o*o*d", 20);
        fault("o|d|e|n|.|o|d|e|n|.", -1);
        fault("(o(d(e(n(.)))))odenn", -1);
        fault("(o(d(e(n(.)))))odenn.", 20);
        fault("((ooooo)+(ooooo)?)*", -1);
        fault("((ooooo)+(oooooo", 15);
    }

    private static void faults() {
        says(0, "FAULT: the place (from 0) of the first byte with which no PATTERN goes on; the length, if it ends too early.");
        fault("o\u0001", 1);
        fault("odx)(", 2);
        fault("oooooooooo|", 10);
        fault("oooooooooo(", 10);
        fault("oooooooooo*|", 11);
        fault("oooooooooo*(", 11);
        fault("(oooooooooo|", 11);
        fault("(oooooooooo(", 11);
        fault("ooooooooo|", 10);
        fault("ooooooooo(", 10);
        fault("ooooooooo(((((", 14);
        fault("ooooooooo(((((o", 15);
        fault("(oooooooooo", 11);
        fault("(oooooooooo)", -1);
        fault("(oooooooooo)*", -1);
        fault("(oooooooooo))", 12);
        String almost = SIXTY.substring(0, 58);
        fault(almost, -1);
        fault(almost + "nn", -1);
        fault(almost + "n)", 59);
        fault(almost + "??", 58);
        fault(almost + "n|", 60);
        fault(almost + "n(", 60);
        fault(almost + "|(", 60);
        fault(almost + "((", 60);
        fault(almost + "|", 59);
        fault(almost + "|)", 59);
    }

    private static void matches(String text, String word, int due) {
        RosterLanes x = new RosterLanes();
        rule(x, 0, text);
        due("whether " + text + " matches " + word, allows(x, 0, word), due);
    }

    private static void matches() {
        says(0, "a letter o, d, e, n; . (any SHIFT)");
        for (int i = 0; i < 4; i++) {
            for (int k = 0; k < 4; k++) {
                matches(LETTERS.substring(i, i + 1), LETTERS.substring(k, k + 1), i == k ? 1 : 0);
            }
            matches(".", LETTERS.substring(i, i + 1), 1);
        }
        matches(".", "", 0);
        matches(".", "oo", 0);
        says(0, "F F one of the first and one of the next, together; | one of either; * none or more, one behind the other, + "
                + "one or more, ? one or none.");
        String[] words = {"", "o", "oo", "ooo"};
        String[] texts = {"o*", "o+", "o?", "o", "oo", "o?o?", "(o*)?", "(o+)?", "(o?)+", "(o+)*", "(o?)*", "(o*)+"};
        String[] due = {"1111", "0111", "1100", "0100", "0010", "1110", "1111", "1111", "1111", "1111", "1111", "1111"};
        for (int i = 0; i < texts.length; i++) {
            for (int k = 0; k < words.length; k++) {
                matches(texts[i], words[k], due[i].charAt(k) - '0');
            }
        }
        matches("od", "o", 0);
        matches("od", "d", 0);
        matches("od", "do", 0);
        matches("od|e", "od", 1);
        matches("od|e", "e", 1);
        matches("od|e", "oe", 0);
        matches("o(d|e)", "oe", 1);
        matches("od*", "odd", 1);
        matches("od*", "odod", 0);
        matches("(od)*", "odod", 1);
        matches("(od)*", "odo", 0);
        matches("(o|d)+", "odd", 1);
        matches("o|d+", "odd", 0);
        matches("o?d?", "", 1);
        matches("o?d?", "od", 1);
        matches("o?d?", "do", 0);
        matches("o*", "odenodenodenodenodenodenodenodenodenodenodenodenodenodenoden", 0);
        matches(".*", "odenodenodenodenodenodenodenodenodenodenodenodenodenodenoden", 1);
        matches("(((((o)*)*)*)*)*", "oooo", 1);
    }

    /** What one RULE allows of the words. */
    private static void allowed(int kind, String text, String... words) {
        RosterLanes x = new RosterLanes();
        due("rule(" + kind + ") of " + text, rule(x, kind, text), 0);
        boolean is = true;
        for (String word : words) {
            if (word == null) {
                is = false;
            } else {
                due("whether kind " + kind + " of " + text + " allows " + word, allows(x, 0, word), is ? 1 : 0);
                due("whether the machine does", x.next(run(x, word), -1), is ? 1 : 0);
            }
        }
    }

    private static void whole() {
        says(0, "0 WHOLE: a word is ALLOWED, if the PATTERN MATCHES it");
        allowed(0, "od", "od", null, "", "o", "ode", "eod", "odod");
        allowed(0, "(od)?", "", "od", null, "o", "ode");
    }

    private static void never() {
        says(0, "1 NEVER: if it MATCHES no part of it (no SHIFTS at all are a part, too)");
        allowed(1, "od", "", "o", "d", "do", "oed", "oo", null, "od", "eod", "ode", "ood", "oood", "odod");
        allowed(1, "o", "", "d", "dn", null, "o", "do", "od");
        allowed(1, "o?", null, "", "o", "d", "nn");
        allowed(1, "o*", null, "", "o", "d", "nn");
        allowed(1, "od|d?", null, "", "e");
        allowed(1, "o+", "", "d", null, "o", "oo", "doo");
        allowed(1, "od|d+e", "", "o", "d", "ee", "oo", null, "od", "de", "dde", "odn");
        allowed(1, "n.*n", "", "n", "nooo", "on", null, "nn", "noon", "onoono");
    }

    private static void begins() {
        says(0, "2 BEGINS: if it MATCHES one of its beginnings (the word itself and nothing at all are such, too).");
        allowed(2, "od", "od", "ode", "odod", null, "", "o", "eod", "do");
        allowed(2, "o?", "", "o", "d", "nn");
        allowed(2, "o*d", "d", "od", "ood", "dn", null, "", "o", "oo", "oe");
        allowed(2, "od|o", "o", "od", "oe", null, "", "d");
        allowed(2, "..", "oo", "ooo", null, "", "o");
    }

    private static void rules() {
        says(0, "RULES 0 .. 4, as they come, each with a PATTERN and a KIND");
        RosterLanes x = new RosterLanes();
        String[] texts = {"o+", "n", "..", "d?.*", "(e)?"};
        int[] kinds = {2, 1, 0, 2, 2};
        for (int i = 0; i <= 5; i++) {
            for (int told = -1; told <= 5; told++) {
                boolean is = told >= 0 && told < i;
                due("kind of " + told + " with " + i, told < 0 ? NONE : x.sums(10 + told), is ? kinds[told] : NONE);
                due("pattern of " + told + " with " + i, x.spell(0, told), is ? texts[told].length() : NONE);
                same("the paper", is ? paper(x) : "", is ? texts[told] : "");
                due("states of " + told + " with " + i, x.states(told) > 0 ? 1 : 0, is || told == -1 ? 1 : 0);
                due("allows(" + told + ") with " + i, feed(x, "on").allows(told), !is ? NONE : told == 1 ? 0 : 1);
                x.clear();
            }
            due("the rule " + i, i < 5 ? rule(x, kinds[i], texts[i]) : rule(x, 0, "o"), i < 5 ? i : FULL);
        }
    }

    private static void accepted() {
        says(0, "A word is ACCEPTED, if all RULES ALLOW it.");
        RosterLanes x = of(1, 1);
        due("without rules the word of no shifts", x.next(x.run(), -1), 1);
        due("without rules any", x.next(run(x, "odenoden"), -1), 1);
        due("without rules any row", x.count(0, 0), 4);
        String[] left = {"oden", "den", "dn", "n", ""};
        String[] never = {"o", "e", "d", "n"};
        for (int i = 0; i < 4; i++) {
            rule(x, 1, never[i]);
            due("rows", x.count(0, 0), left[i + 1].length());
            for (int shift = 0; shift < 4; shift++) {
                due("the shift " + shift, x.may(0, 0) >> shift & 1, left[i + 1].indexOf(LETTERS.charAt(shift)) < 0 ? 0 : 1);
            }
        }
        due("the word of no shifts is", x.next(x.run(), -1), 1);
        rule(x, 0, ".+");
        due("nor is that any longer", x.next(x.run(), -1), 0);
        due("one state", x.states(-1), 1);
    }

    private static void theMachine() {
        says(0, "of all that accept just what is ACCEPTED the one with the fewest STATES (each STATE has a next one for each "
                + "SHIFT).");
        RosterLanes x = new RosterLanes();
        same("without rules", machineText(x), "1 0 0 0 0; ");
        rule(x, 0, "o");
        same("one word", machineText(x), "0 1 2 2 2; 1 2 2 2 2; 0 2 2 2 2; ");
        x.drop();
        rule(x, 0, "(o|d|e|n)*");
        same("all words", machineText(x), "1 0 0 0 0; ");
        x.drop();
        rule(x, 0, "oo|do|eo|no");
        same("like ends", machineText(x), "0 1 1 1 1; 0 2 3 3 3; 1 3 3 3 3; 0 3 3 3 3; ");
        x.drop();
        rule(x, 0, "(..)*");
        rule(x, 0, "(...)*");
        same("two together", machineText(x), "1 1 1 1 1; 0 2 2 2 2; 0 3 3 3 3; 0 4 4 4 4; 0 5 5 5 5; 0 0 0 0 0; ");
        rule(x, 0, "(.....)?");
        same("fewer by one more", machineText(x), "1 1 1 1 1; 0 1 1 1 1; ");
        says(0, "A STATE of THE MACHINE from which nothing can be ACCEPTED counts as one.");
        RosterLanes y = new RosterLanes();
        rule(y, 0, "....");
        due("five and the lost one", y.states(-1), 6);
        due("of the rule alone, too", y.states(0), 6);
        rule(y, 0, "...");
        same("nothing is accepted", machineText(y), "0 0 0 0 0; ");
        rule(y, 0, ".*");
        due("no lost one", y.states(2), 1);
    }

    private static void numbers() {
        says(0, "STATE 0 is the one it begins in; the others are numbered as they are met, going from STATE 0 on by STATES in "
                + "order, in each by SHIFTS in order.");
        RosterLanes x = new RosterLanes();
        rule(x, 0, "n|en|dnn");
        same("the machine", machineText(x), "0 1 2 3 4; 0 1 1 1 1; 0 1 1 1 3; 0 1 1 1 4; 1 1 1 1 1; ");
        x.drop();
        rule(x, 0, "((o|d)(e|n))*");
        same("back to 0", machineText(x), "1 1 1 2 2; 0 2 2 0 0; 0 2 2 2 2; ");
        x.drop();
        rule(x, 1, "nn");
        rule(x, 1, "oo");
        same("two rules", machineText(x), "1 1 0 0 2; 1 3 0 0 2; 1 1 0 0 3; 0 3 3 3 3; ");
        x.drop();
        same("the first alone", machineText(x), "1 0 0 0 1; 1 0 0 0 2; 0 2 2 2 2; ");
    }

    private static void statesAlone() {
        says(0, "RULES whose least machines (made likewise for one alone) have more than 60 STATES");
        String[] sixty = {"o?(d|.......)*d", ".o....do.d", "(..(e+.).)+e..n"};
        String[] more = {"o(d|.......)*d", "o....dene", "(((o+|.e)*)|......)*n"};
        for (int kind = 0; kind < 3; kind++) {
            RosterLanes x = new RosterLanes();
            due("61 states, kind " + kind, rule(x, kind, more[kind]), FULL);
            due("60 states, kind " + kind, rule(x, kind, sixty[kind]), 0);
            due("states", x.states(0), 60);
            due("states", x.states(-1), 60);
        }
        says(0, "RULES whose least machines (made likewise for one alone) have more than 60 STATES, or by which these");
        for (int kind = 0; kind < 3; kind++) {
            RosterLanes x = new RosterLanes();
            rule(x, 1, ".?");
            due("nothing is accepted", x.states(-1), 1);
            due("61 states alone, kind " + kind, rule(x, kind, more[kind]), FULL);
            due("60 states alone, kind " + kind, rule(x, kind, sixty[kind]), 1);
            due("states alone", x.states(1), 60);
            due("states together", x.states(-1), 1);
        }
    }

    private static void placesSideBySide() {
        says(0, "or by which these, side by side from their STATES 0 on, come to more than 400 unlike places");
        RosterLanes x = new RosterLanes();
        rule(x, 1, "(no+)|d");
        rule(x, 2, "(((en*))).+");
        rule(x, 1, ".*d....");
        due("400 places", rule(x, 0, "(n|.....)*n"), 3);
        due("400 places still, by one of one state", rule(x, 1, ".?"), 4);
        due("together", x.states(-1), 1);
        RosterLanes y = new RosterLanes();
        rule(y, 0, "d?o");
        rule(y, 0, "(e|.......)*e");
        due("nothing is accepted by two", y.states(-1), 1);
        changesNothing("401 places", y, 2, ".*o.....");
        rule(y, 2, ".?");
        rule(y, 0, ".*");
        changesNothing("401 places by the last of five", y, 2, ".*o.....");
        RosterLanes z = new RosterLanes();
        rule(z, 1, ".?");
        rule(z, 1, "e..+...n");
        rule(z, 1, "d..dn.");
        due("400 places, the first one met again", rule(z, 1, "n..ne(n)."), 3);
        RosterLanes w = new RosterLanes();
        rule(w, 1, ".?");
        rule(w, 1, "e..d?.n");
        rule(w, 1, "o.?.do");
        changesNothing("401 places, the first one met again", w, 1, "d.d..(n)");
    }

    /** The RULE is FULL, and what the RULES are stays. */
    private static void changesNothing(String what, RosterLanes x, int kind, String text) {
        int rules = x.sums(2);
        String before = machineText(x);
        due(what, rule(x, kind, text), FULL);
        due("the tape is empty", x.sums(3), 0);
        due("rules", x.sums(2), rules);
        same("the machine", machineText(x), before);
    }

    private static void statesTogether() {
        says(0, "or THE MACHINE has more than 60 STATES, can't be: FULL.");
        RosterLanes x = new RosterLanes();
        rule(x, 0, "(d|.......)*d");
        due("60 states together", rule(x, 2, "e+|.(n+|.|d)"), 1);
        due("states", x.states(-1), 60);
        due("alone", x.states(0), 59);
        RosterLanes y = new RosterLanes();
        rule(y, 0, "(d|.....)*d");
        rule(y, 0, "(n((n|.))*)");
        changesNothing("61 states together", y, 1, "(d)+o|oe");
        due("states", y.states(-1), 30);
    }

    private static void penalty() {
        says(0, "PENALTY of a ROW for one of PEOPLE: for each DAY WISH (0 .. 99; 0 at first) of that one, that DAY, that SHIFT; "
                + "and for each DAY but the first CHANGE (0 .. 99; 0 at first) of the SHIFT ahead and that one, added up.");
        RosterLanes x = of(2, 3);
        due("at first", x.penalty(0), 0);
        row(x, 0, "oed");
        x.wish(0, 0, 0, 1);
        due("the first day", x.penalty(0), 1);
        x.wish(0, 2, 1, 2);
        due("the last day", x.penalty(0), 3);
        x.wish(0, 1, 1, 50);
        x.wish(1, 1, 2, 50);
        due("another shift, another one", x.penalty(0), 3);
        x.change(0, 2, 4);
        due("the first change", x.penalty(0), 7);
        x.change(2, 1, 8);
        due("the last change", x.penalty(0), 15);
        x.change(2, 0, 50);
        x.change(1, 2, 50);
        x.change(0, 0, 50);
        x.change(1, 0, 50);
        due("other changes", x.penalty(0), 15);
        RosterLanes y = of(1, 1);
        for (int shift = 0; shift < 4; shift++) {
            y.change(shift, 0, 99);
        }
        due("no change on the first day", y.penalty(0), 0);
    }

    private static void order() {
        says(0, "ROWS in order: by the first DAY that is unlike, the lesser SHIFT first.");
        RosterLanes x = of(1, 2);
        StringBuilder all = new StringBuilder();
        for (int i = 0; i < 16; i++) {
            all.append(nth(x, i));
        }
        same("all", all.toString(), "ooodoeondodddedneoedeeennondnenn");
        for (int i = 0; i < 16; i++) {
            row(x, 0, nth(x, i));
            due("ahead of " + i, x.ahead(0), i);
        }
        rule(x, 0, "(o|n)(d|n)|e.");
        StringBuilder some = new StringBuilder();
        for (int i = 0; i < 8; i++) {
            some.append(nth(x, i));
        }
        same("some", some.toString(), "odoneoedeeenndnn");
    }

    private static void best() {
        says(0, "BEST of one: of ACCEPTED ROWS that with the least PENALTY, of several the first.");
        RosterLanes x = of(2, 3);
        same("all alike: the first", best(x, 0), "ooo");
        x.wish(0, 0, 0, 1);
        same("the first of those", best(x, 0), "doo");
        same("of the other", best(x, 1), "ooo");
        RosterLanes y = of(1, 1);
        y.wish(0, 0, 0, 1);
        for (int to = 0; to < 4; to++) {
            y.change(0, to, 9);
        }
        y.change(0, 0, 0);
        same("no change comes ahead of the first day", best(y, 0), "d");
        due("nor does it cost", y.best(0, -1), 0);
        rule(x, 0, "o..|.n.|..n");
        same("the first accepted of the least", best(x, 0), "don");
        x.change(1, 0, 2);
        same("by a change", best(x, 0), "ddn");
        x.change(1, 1, 1);
        same("on a later day", best(x, 0), "den");
        x.change(1, 2, 1);
        same("by another way", best(x, 0), "dno");
        x.change(1, 3, 1);
        same("on the first day", best(x, 0), "eon");
        x.wish(0, 0, 2, 1);
        x.wish(0, 0, 3, 1);
        same("of those with a penalty of 1 the first", best(x, 0), "ooo");
        due("its penalty", x.best(0, -1), 1);
    }

    private static void need() {
        says(0, "ROSTER: a ROW of each (o throughout at first). NEED of a DAY and a SHIFT: 0 .. 6 (0 at first). SHORT of these: "
                + "NEED less how many have that SHIFT that DAY, 0 at least; SHORT in all: added up.");
        RosterLanes x = new RosterLanes();
        same("at first", roster(x, 0) + roster(x, 1), "oooooooooooooo");
        due("at first", x.lacks(-1, 0), 0);
        for (int v = 0; v <= 6; v++) {
            due("what it was", x.need(6, 0, v), Math.max(0, v - 1));
            due("of a need of " + v, x.lacks(6, 0), Math.max(0, v - 2));
            due("in all", x.lacks(-1, 0), Math.max(0, v - 2));
        }
        due("a need of 7", x.need(6, 0, 7), BAD);
        due("a need of -1", x.need(6, 0, -1), BAD);
        x.need(0, 3, 1);
        due("added up", x.lacks(-1, 0), 5);
        says(0, "It is LAWFUL, if all ROWS of ROSTER are ACCEPTED.");
        rule(x, 1, "n");
        due("all are", x.accepted(-1), 1);
        x.put(0, 0, 3);
        due("the first isn't", x.accepted(-1), 0);
        x.put(1, 6, 3);
        due("none is", x.accepted(-1), 0);
        x.put(0, 0, 0);
        due("the last isn't", x.accepted(-1), 0);
        for (int people = 1; people <= 6; people++) {
            RosterLanes y = of(people, 14);
            rule(y, 0, "d*");
            for (int one = 0; one < people; one++) {
                due("lawful without " + one, y.accepted(-1), 0);
                row(y, one, "dddddddddddddd");
            }
            due("all of " + people + " are", y.accepted(-1), 1);
        }
    }

    private static void aMend() {
        says(0, "A MEND: one of PEOPLE, a DAY, another SHIFT than there is, by which the ROW is ACCEPTED then and SHORT in all is "
                + "less.");
        RosterLanes x = of(1, 2);
        x.need(1, 0, 2);
        due("the shift that there is", x.mend(0), THERE_IS_NONE);
        x.need(1, 2, 1);
        due("no less, but the same", x.mend(0), THERE_IS_NONE);
        x.need(0, 2, 1);
        same("less", mend(x), "0 0 2 2");
        rule(x, 1, "e");
        due("not accepted then", x.mend(0), THERE_IS_NONE);
        x.drop();
        rule(x, 0, "e.");
        due("it need not be ahead", x.accepted(0), 0);
        same("accepted then", mend(x), "0 0 2 2");
        for (int from = 0; from < 4; from++) {
            for (int to = 0; to < 4; to++) {
                RosterLanes y = of(1, 1);
                y.put(0, 0, from);
                y.need(0, to, 1);
                same("from " + from + " to " + to, mend(y), from == to ? "-5 -5 -5 -5" : "0 0 " + to + " 0");
            }
        }
    }

    private static void theMend() {
        says(0, "THE MEND: that by which SHORT in all is least, of several that by which the PENALTY of that one is least then, "
                + "of several the least of PEOPLE, then DAY, then SHIFT.");
        RosterLanes x = of(2, 2);
        x.need(0, 2, 1);
        x.need(0, 3, 1);
        x.need(1, 1, 1);
        same("the least of people, day, shift", mend(x), "0 0 2 2");
        x.wish(0, 0, 2, 1);
        same("then the other shift", mend(x), "0 0 3 2");
        x.wish(0, 0, 3, 1);
        same("then the other day", mend(x), "0 1 1 2");
        x.wish(0, 1, 1, 1);
        same("then the other of people", mend(x), "1 0 2 2");
        x.wish(1, 0, 0, 1);
        x.wish(1, 0, 2, 1);
        same("all alike but one", mend(x), "1 0 3 2");
        x.wish(1, 0, 3, 1);
        same("all alike", mend(x), "0 0 2 2");
        says(0, "THE MEND looks at the PENALTY itself of the one whose ROW it is.");
        x.wish(0, 1, 0, 2);
        same("not at what it grows by", mend(x), "0 1 1 2");
        x.wish(0, 1, 1, 3);
        x.wish(0, 0, 0, 9);
        same("nor at the other's", mend(x), "1 0 2 2");
    }

    private static void repaired() {
        says(0, "REPAIRED: THE MEND is done as long as there is one.");
        RosterLanes x = of(2, 2);
        x.need(0, 2, 1);
        x.need(0, 3, 1);
        x.need(1, 1, 1);
        due("repair(40)", x.repair(40), 3);
        same("rows", roster(x, 0) + " " + roster(x, 1), "ed no");
        due("there is none", x.mend(0), THERE_IS_NONE);
    }

    private static void aSwap() {
        says(0, "A SWAP of two PEOPLE (a below b) from DAY i to j (i not above j): what they have on these DAYS changes places.");
        RosterLanes x = of(3, 3);
        row(x, 0, "ddd");
        row(x, 2, "eno");
        due("one day", x.swaps(0, 2, 1, 1), 0);
        same("rows", roster(x, 0) + " " + roster(x, 1) + " " + roster(x, 2), "dnd ooo edo");
        due("all days", x.swaps(0, 2, 0, 2), 0);
        same("rows", roster(x, 0) + " " + roster(x, 1) + " " + roster(x, 2), "edo ooo dnd");
        due("a like b", x.swaps(1, 1, 0, 0), NONE);
        due("a above b", x.swaps(2, 0, 0, 0), NONE);
        due("i above j", x.swaps(0, 2, 1, 0), NONE);
        says(0, "It MAY be, if both ROWS are ACCEPTED then, and it isn't that nothing changes.");
        RosterLanes y = of(2, 3);
        rule(y, 1, "nn");
        row(y, 0, "nod");
        row(y, 1, "onn");
        due("the first isn't", y.swap(0, 1, 1, 1), MAY_NOT);
        due("the second isn't", y.swap(0, 1, 0, 0), MAY_NOT);
        due("neither need be ahead", y.accepted(1), 0);
        due("both are then", y.swap(0, 1, 2, 2), 0);
        row(y, 1, "nen");
        due("nothing changes", y.swap(0, 1, 0, 0), MAY_NOT);
        due("one of two days", y.swap(0, 1, 0, 1), 0);
        says(0, "It GAINS by what their PENALTIES together are less then.");
        y.wish(0, 1, 2, 7);
        y.wish(1, 1, 0, 1);
        y.wish(1, 1, 2, 3);
        due("it costs more", y.swap(0, 1, 1, 1), 0 + 3 - 7 - 1);
        y.swaps(0, 1, 1, 1);
        due("it gains", y.swap(0, 1, 1, 1), 5);
    }

    private static void theSwap() {
        says(0, "THE SWAP: that one which GAINS most, more than 0, of several by a, b, i, j the least first.");
        RosterLanes x = of(3, 3);
        row(x, 0, "nod");
        row(x, 1, "oeo");
        row(x, 2, "nee");
        due("no gain of 0", x.bestSwap(0), THERE_IS_NONE);
        x.wish(0, 1, 0, 1);
        same("the least first", bestSwap(x), "0 1 0 1 1");
        x.wish(0, 0, 0, 1);
        same("then the other i", bestSwap(x), "0 1 1 1 1");
        x.wish(1, 1, 0, 1);
        same("then the other b", bestSwap(x), "0 2 0 1 1");
        x.wish(0, 0, 0, 0);
        x.wish(0, 2, 2, 1);
        same("the least j", bestSwap(x), "0 2 0 1 1");
        x.wish(2, 0, 0, 5);
        x.wish(2, 2, 2, 2);
        same("the greatest gain", bestSwap(x), "0 2 0 2 2");
        x.wish(1, 2, 0, 3);
        same("that of others", bestSwap(x), "1 2 1 2 5");
        RosterLanes y = of(2, 3);
        y.change(2, 1, 9);
        row(y, 0, "oed");
        row(y, 1, "ono");
        same("by a change behind the days", bestSwap(y), "0 1 0 1 9");
        y.begin(2, 2);
        row(y, 0, "oe");
        row(y, 1, "on");
        due("there are no such days any longer", y.bestSwap(4), THERE_IS_NONE);
    }

    private static void tape() {
        says(0, "THE TAPE holds 0 .. 60 bytes.");
        RosterLanes x = new RosterLanes();
        due("none at first", x.sums(3), 0);
        for (int i = 1; i <= 60; i++) {
            due("a byte", x.feed('n'), i);
        }
        due("one more", x.feed('n'), FULL);
        due("60", x.sums(3), 60);
        due("all of them are a word", x.run(), 0);
    }

    private static void rowText() {
        says(0, "A ROW as a text: as many letters as there are DAYS.");
        for (int days = 1; days <= 14; days++) {
            RosterLanes x = of(1, days);
            String text = "nedonedonedonedo";
            for (int n = 0; n <= 16; n++) {
                due(n + " letters for " + days, row(x, 0, text.substring(0, n)), n == days ? 0 : -100 - Math.min(n, days));
            }
            same("the row", roster(x, 0), text.substring(0, days));
        }
        says(0, "FAULT of a ROW: the place of the first byte that isn't such a letter, or is too many; the length, if there are "
                + "too few.");
        for (int letter = 1; letter <= 127; letter++) {
            RosterLanes x = of(1, 2);
            boolean is = LETTERS.indexOf(letter) >= 0;
            due("the byte " + letter + " last", row(x, 0, "d" + (char) letter), is ? 0 : -101);
            due("the byte " + letter + " first", row(x, 0, (char) letter + "d"), is ? 0 : -100);
            due("the byte " + letter + " too many", row(x, 0, "od" + (char) letter), -102);
            due("the byte " + letter + ", too few", row(x, 0, "" + (char) letter), is ? -101 : -100);
        }
    }

    private static void spelled() {
        says(0, "SPELLED: a ROW so; a PATTERN as it was told. THE PAPER holds the latest (nothing at first).");
        RosterLanes x = of(2, 4);
        due("nothing at first", x.sums(4), 0);
        due("no byte", x.paper(0), NONE);
        x.begin(2, 4);
        row(x, 1, "nedo");
        rule(x, 2, "((o))|d?");
        x.spell(1, 1);
        same("a row", paper(x), "nedo");
        x.spell(0, 0);
        same("a pattern", paper(x), "((o))|d?");
        x.drop();
        same("it stays", paper(x), "((o))|d?");
        due("there is no such rule", x.spell(0, 0), NONE);
        same("it stays", paper(x), "((o))|d?");
        x.spell(1, 0);
        same("the latest", paper(x), "oooo");
    }

    private static void lists() {
        says(0, "LISTS 0 .. 3 hold nothing (at first) or a row of 0 .. 30 longs. NOTHING (-11): there is none; BEYOND (-13): no "
                + "such place; BELOW (-14): a size below 0.");
        RosterLanes x = of(1, 1);
        for (int list = -1; list <= 4; list++) {
            boolean is = list >= 0 && list <= 3;
            due("set(" + list + ", 0, 1) at first", x.set(list, 0, 1), is ? NOTHING : NONE);
            due("judge(" + list + ", 0) at first", x.judge(list, 0), is ? NOTHING : NONE);
            due("lay(" + list + ", 0, 0) at first", x.lay(list, 0, 0), is ? NOTHING : NONE);
            due("get(" + list + ", 0) at first", x.get(list, 0), NO);
            due("list(" + list + ", -1)", x.list(list, -1), is ? BELOW : NONE);
            due("list(" + list + ", 31)", x.list(list, 31), is ? BAD : NONE);
            due("nothing still", x.set(list, 0, 1), is ? NOTHING : NONE);
            for (int n = 0; n <= 30; n++) {
                due("list(" + list + ", " + n + ")", x.list(list, n), is ? 1 : NONE);
                due("the place " + n, x.set(list, n, 1), is ? BEYOND : NONE);
                due("the place " + (n - 1), x.set(list, n - 1, 1), !is ? NONE : n > 0 ? 1 : BEYOND);
            }
        }
    }

    private static void toldRow() {
        says(0, "A TOLD ROW: SHIFTS (0 .. 3) in a LIST from a place on, one for each DAY.");
        for (int days = 1; days <= 14; days++) {
            RosterLanes x = of(1, days);
            list(x, 0, 0, 1, 2, 3, 0, 1, 2, 3, 0, 1, 2, 3, 0, 1);
            due("from the last place that it fits", x.judge(0, 14 - days), THERE_IS_NONE);
            due("from the next", x.judge(0, 15 - days), BEYOND);
            x.set(0, days - 1, 4);
            due("bad on the last day", x.judge(0, 0), BAD);
            x.set(0, days - 1, 3);
            rule(x, 0, ".*n");
            due("accepted by the last day", x.judge(0, 0), THERE_IS_NONE);
        }
    }

    private static void lost() {
        says(0, "A word is LOST on the first DAY behind which no ROW that begins so is ACCEPTED.");
        RosterLanes x = of(1, 4);
        list(x, 0, 0, 0, 0, 0);
        String[] patterns = {"d...", "od..", "ood.", "oood", "oooo", "oo", "ooooo", "d...|ooooo", "o?o?o?o?o?o?"};
        int[] due = {0, 1, 2, 3, THERE_IS_NONE, 0, 0, 0, THERE_IS_NONE};
        for (int i = 0; i < patterns.length; i++) {
            due("rule(0) of " + patterns[i], rule(x, 0, patterns[i]), 0);
            due("by " + patterns[i], x.judge(0, 0), due[i]);
            x.drop();
        }
        rule(x, 1, "oo");
        due("not on the first day", x.judge(0, 0), 1);
        rule(x, 2, "(o.)?(.o)(o|d)n");
        due("all rules together", x.judge(0, 0), 0);
        says(0, "judge() looks at BEYOND ahead of BAD, and at all DAYS for BAD ahead of where it is LOST.");
        list(x, 1, 0, 0, 0, 4);
        due("bad behind where it is lost", x.judge(1, 0), BAD);
        due("beyond ahead of bad", x.judge(1, 1), BEYOND);
        list(x, 1, 4, 4, 4);
        due("beyond ahead of bad", x.judge(1, 0), BEYOND);
    }

    private static void theImage() {
        says(0, "THE IMAGE: T, p, RULES, WISHES, CHANGES, NEEDS, ROSTER (THE TAPE, THE PAPER, LISTS stay by undo()).");
        RosterLanes x = told();
        x.undo();
        due("T", x.sums(1), 3);
        due("p", x.sums(0), 2);
        due("rules", x.sums(2), 1);
        due("wish", x.wished(1, 2, 3), 9);
        due("change", x.changed(3, 3), 2);
        due("need", x.needed(2, 1), 2);
        same("roster", roster(x, 1), "den");
        due("the tape", x.sums(3), 4);
        same("the paper", paper(x), "(o|d|e|n)+");
        same("a list", listText(x, 0), BEYOND + ": 0 1 2 3 7");
        due("the tape", x.rule(0), 1);
    }

    private static void answers() {
        says(0, "Answers: NONE (-1) no such number; BAD (-2) a number is not as told; STATE (-3) as told; FULL (-4); the first "
                + "that a call's words name (-5 is told only where none of them is).");
        due("NONE", RosterLanes.NONE, -1);
        due("BAD", RosterLanes.BAD, -2);
        due("STATE", RosterLanes.STATE, -3);
        due("FULL", RosterLanes.FULL, -4);
        says(0, "`NO = Long.MIN_VALUE`: No such number.");
        due("NO", RosterLanes.NO, NO);
        says(0, "What is answered so changes nothing (but LISTS by BEYOND, as told)");
        changes("lay(3, 0, 0), two places", BEYOND, x -> x.lay(3, 0, 0), "LISTS");
        refused("lay(3, -1, 0)", BEYOND, x -> x.lay(3, -1, 0));
        refused("judge(3, 0)", BEYOND, x -> x.judge(3, 0));
        refused("set(3, 2, 1)", BEYOND, x -> x.set(3, 2, 1));
        says(0, "-100 less the FAULT of a text; THE TAPE is empty behind each call that reads it.");
        for (String text : new String[] {"", "o", "oden", ")", "o)", "od)"}) {
            RosterLanes x = of(1, 1);
            rule(x, 0, ".");
            due("rule(-1) does not read " + text, feed(x, text).rule(-1), NONE);
            due("it stays", x.clear(), text.length());
            feed(x, text).rule(0);
            due("rule(0) reads " + text, x.sums(3), 0);
            due("row(1) does not read " + text, feed(x, text).row(1), NONE);
            due("it stays", x.clear(), text.length());
            feed(x, text).row(0);
            due("row(0) reads " + text, x.sums(3), 0);
            due("allows(5) does not read " + text, feed(x, text).allows(5), NONE);
            due("it stays", x.clear(), text.length());
            feed(x, text).allows(0);
            due("allows(0) reads " + text, x.sums(3), 0);
            feed(x, text).run();
            due("run() reads " + text, x.sums(3), 0);
        }
    }

    private static void asked() {
        says(0, "what is asked changes nothing but THE PAPER, LISTS that are told.");
        changes("spell(1, 1)", 4, x -> x.spell(1, 1), "PAPER");
        changes("lay(0, 0, 2)", 4, x -> x.lay(0, 0, 2), "LISTS");
        for (int one = -1; one <= 3; one++) {
            int a = one;
            asks("penalty", x -> x.penalty(a));
            asks("ahead", x -> x.ahead(a));
            asks("accepted", x -> x.accepted(a));
            asks("worst", x -> x.worst(a));
            asks("states", x -> x.states(a));
            asks("mend", x -> x.mend(a));
            asks("bestSwap", x -> x.bestSwap(a));
            for (int other = -1; other <= 4; other++) {
                int b = other;
                asks("wished", x -> x.wished(a, b, 0));
                asks("changed", x -> x.changed(a, b));
                asks("needed", x -> x.needed(a, b));
                asks("at", x -> x.at(a, b));
                asks("next", x -> x.next(a, b));
                asks("count", x -> x.count(a, b));
                asks("nth", x -> x.nth(a, b));
                asks("may", x -> x.may(a, b));
                asks("best", x -> x.best(a, b));
                asks("lacks", x -> x.lacks(a, b));
                asks("swap", x -> x.swap(a, b, 1, 2));
                asks("swap", x -> x.swap(0, 2, a, b));
                asks("judge", x -> x.judge(a, b));
                asks("get", x -> x.get(a, b));
            }
        }
        for (int what = -1; what <= 15; what++) {
            int of = what;
            asks("sums", x -> x.sums(of));
            asks("paper", x -> x.paper(of));
        }
    }

    /** 512 calls, of which the last one answers as the first ones did; RULES come and go all the time. */
    private static void manyCalls() {
        says(0, "An object is used for at most 512 calls after it has been made");
        RosterLanes x = new RosterLanes();
        for (int call = 0; call < 508; call += 4) {
            due("feed", x.feed(LETTERS.charAt(call / 4 % 4)), 1);
            due("rule", x.rule(0), 0);
            due("count", x.count(0, 0), 0);
            due("drop", x.drop(), 0);
        }
        due("the call 509", x.image(), 0);
        due("the call 510", x.put(1, 6, 3), 0);
        due("the call 511", x.undo(), 0);
        due("the call 512", x.at(1, 6), 0);
    }
}

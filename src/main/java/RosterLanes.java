import java.util.Arrays;

/**
 * Rosters by machines: rules told as patterns, rows of shifts that they accept, penalties, cover, swaps.
 * What each call promises stands in the project's document; the words in capitals are told there, too.
 */
public final class RosterLanes {
    public static final int NONE = -1, BAD = -2, STATE = -3, FULL = -4;
    public static final long NO = Long.MIN_VALUE;

    private static final int NOT_FOUND = -5, NOTHING = -11, BEYOND = -13, BELOW = -14;
    private static final int FAULT = -100, MAY_NOT = -100000;
    private static final int SHIFTS = 4, MOST_DAYS = 14, MOST_PEOPLE = 6, MOST_RULES = 5;
    private static final int MOST_STATES = 60, MOST_PLACES = 400, MOST_BYTES = 60;
    private static final int MOST_PENALTY = 99, MOST_NEED = 6, MOST_MENDS = 40, MOST_SWAPS = 20;
    private static final int WHOLE = 0, NEVER = 1, BEGINS = 2;

    private final Plan plan = new Plan();
    private final Plan kept = new Plan();
    private boolean hasKept = false;
    private final Text tape = new Text();
    private final Text sheet = new Text();
    private final Lists lists = new Lists();
    private final Ways ways = new Ways();
    private final BestRow bestRow = new BestRow();
    private final Mends mends = new Mends();
    private final Exchanges exchanges = new Exchanges();
    private Maker maker = null;

    public RosterLanes() {
    }

    // ---- what is told

    public int begin(int p, int t) {
        if (p < 1 || p > MOST_PEOPLE || t < 1 || t > MOST_DAYS) {
            return BAD;
        }
        int was = plan.people;
        plan.startAnew(p, t);
        return was;
    }

    public int wish(int one, int day, int shift, int v) {
        if (!plan.hasPerson(one) || !plan.hasDay(day) || !isShift(shift)) {
            return NONE;
        }
        if (v < 0 || v > MOST_PENALTY) {
            return BAD;
        }
        return exchange(plan.wishes, wishPlace(one, day, shift), v);
    }

    public int change(int from, int to, int v) {
        if (!isShift(from) || !isShift(to)) {
            return NONE;
        }
        if (v < 0 || v > MOST_PENALTY) {
            return BAD;
        }
        return exchange(plan.changes, from * SHIFTS + to, v);
    }

    public int need(int day, int shift, int v) {
        if (!plan.hasDay(day) || !isShift(shift)) {
            return NONE;
        }
        if (v < 0 || v > MOST_NEED) {
            return BAD;
        }
        return exchange(plan.needs, day * SHIFTS + shift, v);
    }

    public int wished(int one, int day, int shift) {
        if (!plan.hasPerson(one) || !plan.hasDay(day) || !isShift(shift)) {
            return NONE;
        }
        return plan.wishes[wishPlace(one, day, shift)];
    }

    public int changed(int from, int to) {
        if (!isShift(from) || !isShift(to)) {
            return NONE;
        }
        return plan.changes[from * SHIFTS + to];
    }

    public int needed(int day, int shift) {
        if (!plan.hasDay(day) || !isShift(shift)) {
            return NONE;
        }
        return plan.needs[day * SHIFTS + shift];
    }

    public int feed(int letter) {
        if (letter < 1 || letter > 127) {
            return BAD;
        }
        if (tape.size >= MOST_BYTES) {
            return FULL;
        }
        tape.add(letter);
        return tape.size;
    }

    public int clear() {
        return tape.empty();
    }

    public int rule(int kind) {
        if (kind < WHOLE || kind > BEGINS) {
            return NONE;
        }
        if (maker == null) {
            maker = new Maker();
        }
        int fault = maker.pattern.faultOf(tape);
        int answer = fault >= 0 ? FAULT - fault : addRule(kind);
        tape.empty();
        return answer;
    }

    /** The PATTERN that the maker has just read becomes a RULE: its number, or FULL. */
    private int addRule(int kind) {
        if (maker == null || plan.ruleCount >= MOST_RULES) {
            return FULL;
        }
        Machine alone = maker.machineOfPattern(kind);
        if (alone == null) {
            return FULL;
        }
        Machine joined = maker.machineOfAll(plan.rules, plan.ruleCount, alone);
        if (joined == null) {
            return FULL;
        }
        return plan.addRule(new Rule(kind, tape.copyOfBytes(), alone, joined));
    }

    public int drop() {
        if (plan.ruleCount == 0) {
            return STATE;
        }
        plan.dropRule();
        return plan.ruleCount;
    }

    public int row(int one) {
        if (!plan.hasPerson(one)) {
            return NONE;
        }
        int other = tape.firstOther();
        int answer;
        if (other < plan.days || tape.size > plan.days) {
            answer = FAULT - Math.min(other, plan.days);
        } else {
            for (int day = 0; day < plan.days; day++) {
                plan.roster[rosterPlace(one, day)] = shiftOf(tape.byteAt(day));
            }
            answer = plan.penaltyOf(one);
        }
        tape.empty();
        return answer;
    }

    public int put(int one, int day, int shift) {
        if (!plan.hasPerson(one) || !plan.hasDay(day) || !isShift(shift)) {
            return NONE;
        }
        return exchange(plan.roster, rosterPlace(one, day), shift);
    }

    public int at(int one, int day) {
        if (!plan.hasPerson(one) || !plan.hasDay(day)) {
            return NONE;
        }
        return plan.shiftAt(one, day);
    }

    // ---- machines

    public int states(int rule) {
        if (rule == -1) {
            return plan.machine.size;
        }
        Rule told = plan.ruleAt(rule);
        return told == null ? NONE : told.alone.size;
    }

    public int next(int state, int shift) {
        if (state < 0 || state >= plan.machine.size) {
            return NONE;
        }
        if (shift == -1) {
            return plan.machine.accepts(state) ? 1 : 0;
        }
        return isShift(shift) ? plan.machine.after(state, shift) : NONE;
    }

    public int run() {
        return readWord(plan.machine);
    }

    public int allows(int rule) {
        Rule told = plan.ruleAt(rule);
        if (told == null) {
            return NONE;
        }
        int state = readWord(told.alone);
        if (state < 0) {
            return state;
        }
        return told.alone.accepts(state) ? 1 : 0;
    }

    /** The STATE of a machine behind the word on THE TAPE, or the FAULT's answer; THE TAPE is empty then. */
    private int readWord(Machine machine) {
        int other = tape.firstOther();
        int answer = FAULT - other;
        if (other == tape.size) {
            answer = 0;
            for (int i = 0; i < other; i++) {
                answer = machine.after(answer, shiftOf(tape.byteAt(i)));
            }
        }
        tape.empty();
        return answer;
    }

    public long count(int one, int k) {
        if (!plan.hasPerson(one) || k < 0 || k > plan.days) {
            return NO;
        }
        ways.lookAt(plan.machine);
        return ways.behind(plan.stateAhead(one, k), plan.days - k);
    }

    public int nth(long i, int day) {
        if (!plan.hasDay(day)) {
            return NONE;
        }
        ways.lookAt(plan.machine);
        if (i < 0 || i >= ways.behind(0, plan.days)) {
            return NONE;
        }
        return ways.shiftOfNth(i, day, plan.days);
    }

    public long ahead(int one) {
        if (!plan.hasPerson(one)) {
            return NO;
        }
        ways.lookAt(plan.machine);
        long lesser = 0;
        int state = 0;
        for (int day = 0; day < plan.days; day++) {
            int own = plan.shiftAt(one, day);
            for (int shift = 0; shift < own; shift++) {
                lesser += ways.behind(plan.machine.after(state, shift), plan.days - day - 1);
            }
            state = plan.machine.after(state, own);
        }
        return lesser;
    }

    public int may(int one, int day) {
        if (!plan.hasPerson(one) || !plan.hasDay(day)) {
            return NONE;
        }
        ways.lookAt(plan.machine);
        int state = plan.stateAhead(one, day);
        int bits = 0;
        for (int shift = 0; shift < SHIFTS; shift++) {
            if (ways.behind(plan.machine.after(state, shift), plan.days - day - 1) > 0) {
                bits |= 1 << shift;
            }
        }
        return bits;
    }

    // ---- penalties, cover

    public int penalty(int one) {
        return plan.hasPerson(one) ? plan.penaltyOf(one) : NONE;
    }

    public int best(int one, int day) {
        if (!plan.hasPerson(one) || (day != -1 && !plan.hasDay(day))) {
            return NONE;
        }
        if (!bestRow.find(plan, one)) {
            return STATE;
        }
        return day == -1 ? bestRow.cost : bestRow.shifts[day];
    }

    public int better(int one) {
        if (!plan.hasPerson(one)) {
            return NONE;
        }
        if (!bestRow.find(plan, one)) {
            return STATE;
        }
        int was = plan.penaltyOf(one);
        for (int day = 0; day < plan.days; day++) {
            plan.roster[rosterPlace(one, day)] = bestRow.shifts[day];
        }
        return was - bestRow.cost;
    }

    public int accepted(int one) {
        if (one == -1) {
            return plan.isLawful() ? 1 : 0;
        }
        if (!plan.hasPerson(one)) {
            return NONE;
        }
        return plan.isAccepted(one) ? 1 : 0;
    }

    public int lacks(int day, int shift) {
        if (day == -1) {
            return plan.shortInAll();
        }
        if (!plan.hasDay(day) || !isShift(shift)) {
            return NONE;
        }
        return plan.shortOf(day, shift);
    }

    public int mend(int what) {
        if (what < 0 || what > 3) {
            return NONE;
        }
        if (!mends.find(plan)) {
            return NOT_FOUND;
        }
        switch (what) {
            case 0:
                return mends.one;
            case 1:
                return mends.day;
            case 2:
                return mends.shift;
            default:
                // each MEND fills one gap and opens none, so it lessens SHORT in all by just 1
                return plan.shortInAll() - 1;
        }
    }

    public int repair(int n) {
        if (n < 1 || n > MOST_MENDS) {
            return BAD;
        }
        int done = 0;
        while (done < n && mends.find(plan)) {
            plan.roster[rosterPlace(mends.one, mends.day)] = mends.shift;
            done++;
        }
        return done;
    }

    // ---- swaps

    public int swap(int a, int b, int i, int j) {
        if (!isSwap(a, b, i, j)) {
            return NONE;
        }
        return exchanges.gainIfItMay(plan, a, b, i, j);
    }

    public int swaps(int a, int b, int i, int j) {
        if (!isSwap(a, b, i, j)) {
            return NONE;
        }
        int gain = exchanges.gainIfItMay(plan, a, b, i, j);
        if (gain != MAY_NOT) {
            plan.exchangeDays(a, b, i, j);
        }
        return gain;
    }

    private boolean isSwap(int a, int b, int i, int j) {
        return plan.hasPerson(a) && plan.hasPerson(b) && a < b && plan.hasDay(i) && plan.hasDay(j) && i <= j;
    }

    public int bestSwap(int what) {
        if (what < 0 || what > 4) {
            return NONE;
        }
        if (!exchanges.find(plan)) {
            return NOT_FOUND;
        }
        switch (what) {
            case 0:
                return exchanges.one;
            case 1:
                return exchanges.other;
            case 2:
                return exchanges.first;
            case 3:
                return exchanges.last;
            default:
                return exchanges.gain;
        }
    }

    public int improve(int n) {
        if (n < 1 || n > MOST_SWAPS) {
            return BAD;
        }
        int done = 0;
        while (done < n && exchanges.find(plan)) {
            plan.exchangeDays(exchanges.one, exchanges.other, exchanges.first, exchanges.last);
            done++;
        }
        return done;
    }

    public int worst(int k) {
        if (!plan.hasPerson(k)) {
            return NONE;
        }
        for (int one = 0; one < plan.people; one++) {
            if (plan.worseThan(one) == k) {
                return one;
            }
        }
        return NONE;
    }

    // ---- told rows, texts, the image

    public int judge(int list, int i) {
        if (!Lists.isList(list)) {
            return NONE;
        }
        if (!lists.holds(list)) {
            return NOTHING;
        }
        if (i < 0 || i > lists.sizeOf(list) - plan.days) {
            return BEYOND;
        }
        for (int day = 0; day < plan.days; day++) {
            long told = lists.valueAt(list, i + day);
            if (told < 0 || told >= SHIFTS) {
                return BAD;
            }
        }
        return dayLost(list, i);
    }

    private int dayLost(int list, int i) {
        ways.lookAt(plan.machine);
        int state = 0;
        for (int day = 0; day < plan.days; day++) {
            state = plan.machine.after(state, (int) lists.valueAt(list, i + day));
            if (ways.behind(state, plan.days - day - 1) == 0) {
                return day;
            }
        }
        return NOT_FOUND;
    }

    public int lay(int list, int i, int one) {
        if (!plan.hasPerson(one) || !Lists.isList(list)) {
            return NONE;
        }
        if (!lists.holds(list)) {
            return NOTHING;
        }
        if (!bestRow.find(plan, one)) {
            return STATE;
        }
        if (i < 0) {
            return BEYOND;
        }
        int room = Math.min(plan.days, lists.sizeOf(list) - i);
        for (int day = 0; day < room; day++) {
            lists.setValue(list, i + day, bestRow.shifts[day]);
        }
        return room < plan.days ? BEYOND : plan.days;
    }

    public int spell(int kind, int k) {
        if (kind == 0) {
            Rule told = plan.ruleAt(k);
            return told == null ? NONE : spellPattern(told);
        }
        return kind == 1 && plan.hasPerson(k) ? spellRow(k) : NONE;
    }

    private int spellPattern(Rule told) {
        sheet.empty();
        for (int i = 0; i < told.pattern.length; i++) {
            sheet.add(told.pattern[i]);
        }
        return sheet.size;
    }

    private int spellRow(int one) {
        sheet.empty();
        for (int day = 0; day < plan.days; day++) {
            sheet.add(letterOf(plan.shiftAt(one, day)));
        }
        return sheet.size;
    }

    public int paper(int i) {
        return i < 0 || i >= sheet.size ? NONE : sheet.byteAt(i);
    }

    public int sums(int what) {
        switch (what) {
            case 0:
                return plan.people;
            case 1:
                return plan.days;
            case 2:
                return plan.ruleCount;
            case 3:
                return tape.size;
            case 4:
                return sheet.size;
            case 5:
                return plan.allPenalties();
            default:
                Rule told = what < 10 ? null : plan.ruleAt(what - 10);
                return told == null ? NONE : told.kind;
        }
    }

    public int list(int list, int n) {
        if (!Lists.isList(list)) {
            return NONE;
        }
        if (n > Lists.MOST_VALUES) {
            return BAD;
        }
        if (n < 0) {
            return BELOW;
        }
        lists.makeRow(list, n);
        return 1;
    }

    public int set(int list, int i, long v) {
        if (!Lists.isList(list)) {
            return NONE;
        }
        if (!lists.holds(list)) {
            return NOTHING;
        }
        if (i < 0 || i >= lists.sizeOf(list)) {
            return BEYOND;
        }
        lists.setValue(list, i, v);
        return 1;
    }

    public long get(int list, int i) {
        if (!Lists.isList(list) || i < 0 || i >= lists.sizeOf(list)) {
            return NO;
        }
        return lists.valueAt(list, i);
    }

    public int image() {
        kept.takeAll(plan);
        hasKept = true;
        return plan.ruleCount;
    }

    public int undo() {
        if (!hasKept) {
            return STATE;
        }
        plan.takeAll(kept);
        return plan.ruleCount;
    }

    // ---- small helps that all share

    private static boolean isShift(int shift) {
        return shift >= 0 && shift < SHIFTS;
    }

    private static int shiftOf(int letter) {
        switch (letter) {
            case 'o':
                return 0;
            case 'd':
                return 1;
            case 'e':
                return 2;
            case 'n':
                return 3;
            default:
                return -1;
        }
    }

    private static int letterOf(int shift) {
        switch (shift) {
            case 0:
                return 'o';
            case 1:
                return 'd';
            case 2:
                return 'e';
            default:
                return 'n';
        }
    }

    private static int wishPlace(int one, int day, int shift) {
        return (one * MOST_DAYS + day) * SHIFTS + shift;
    }

    private static int rosterPlace(int one, int day) {
        return one * MOST_DAYS + day;
    }

    private static int exchange(int[] values, int place, int v) {
        int was = values[place];
        values[place] = v;
        return was;
    }

    /** A row of bytes: THE TAPE, THE PAPER. */
    private static final class Text {
        private final byte[] bytes = new byte[MOST_BYTES];
        int size = 0;

        void add(int letter) {
            if (size < bytes.length) {
                bytes[size] = (byte) letter;
                size++;
            }
        }

        int empty() {
            int was = size;
            size = 0;
            return was;
        }

        /** The byte at a place; 0, which no text holds, behind the end: so readers need not look at the size. */
        int byteAt(int place) {
            return place >= 0 && place < size ? bytes[place] : 0;
        }

        /** The place of the first byte that isn't a SHIFT's letter; the size, if there is none. */
        int firstOther() {
            int place = 0;
            while (place < size && shiftOf(bytes[place]) >= 0) {
                place++;
            }
            return place;
        }

        byte[] copyOfBytes() {
            return Arrays.copyOf(bytes, size);
        }
    }

    /** LISTS, all in one row, so that none is ever made anew. */
    private static final class Lists {
        static final int MOST_VALUES = 30;
        private static final int MOST_LISTS = 4;
        private final long[] values = new long[MOST_LISTS * MOST_VALUES];
        private final int[] sizes = {-1, -1, -1, -1};

        static boolean isList(int list) {
            return list >= 0 && list < MOST_LISTS;
        }

        boolean holds(int list) {
            return sizes[list] >= 0;
        }

        /** How many longs a LIST holds; -1, if it holds nothing. */
        int sizeOf(int list) {
            return sizes[list];
        }

        void makeRow(int list, int size) {
            sizes[list] = size;
            Arrays.fill(values, list * MOST_VALUES, list * MOST_VALUES + size, 0L);
        }

        long valueAt(int list, int i) {
            return values[list * MOST_VALUES + i];
        }

        void setValue(int list, int i, long v) {
            values[list * MOST_VALUES + i] = v;
        }
    }

    /** A least machine. It never changes, so RULES, THE MACHINE and THE IMAGE may share it. */
    private static final class Machine {
        final int size;
        private final int[] steps;
        private final long accepting;

        /** For each STATE the next ones by SHIFTS, one STATE behind the other; a bit for each that accepts. */
        Machine(int[] steps, long accepting) {
            this.size = steps.length / SHIFTS;
            this.steps = steps;
            this.accepting = accepting;
        }

        int after(int state, int shift) {
            return steps[state * SHIFTS + shift];
        }

        boolean accepts(int state) {
            return (accepting >>> state & 1L) != 0;
        }
    }

    /**
     * A RULE, with its own machine and that of it and all RULES ahead of it: when later RULES are dropped,
     * THE MACHINE need not be made anew.
     */
    private static final class Rule {
        final int kind;
        final byte[] pattern;
        final Machine alone;
        final Machine joined;

        Rule(int kind, byte[] pattern, Machine alone, Machine joined) {
            this.kind = kind;
            this.pattern = pattern;
            this.alone = alone;
            this.joined = joined;
        }
    }

    /** What THE IMAGE holds: PEOPLE, DAYS, RULES, WISHES, CHANGES, NEEDS, ROSTER; and what they say together. */
    private static final class Plan {
        int people = 2;
        int days = 7;
        int ruleCount = 0;
        final Rule[] rules = new Rule[MOST_RULES];
        final int[] wishes = new int[MOST_PEOPLE * MOST_DAYS * SHIFTS];
        final int[] changes = new int[SHIFTS * SHIFTS];
        final int[] needs = new int[MOST_DAYS * SHIFTS];
        final int[] roster = new int[MOST_PEOPLE * MOST_DAYS];
        private final Machine free = new Machine(new int[SHIFTS], 1L);
        Machine machine = free;

        void startAnew(int p, int t) {
            people = p;
            days = t;
            Arrays.fill(wishes, 0);
            Arrays.fill(needs, 0);
            Arrays.fill(roster, 0);
        }

        void takeAll(Plan from) {
            people = from.people;
            days = from.days;
            ruleCount = from.ruleCount;
            machine = from.machine;
            for (int i = 0; i < MOST_RULES; i++) {
                rules[i] = from.rules[i];
            }
            System.arraycopy(from.wishes, 0, wishes, 0, wishes.length);
            System.arraycopy(from.changes, 0, changes, 0, changes.length);
            System.arraycopy(from.needs, 0, needs, 0, needs.length);
            System.arraycopy(from.roster, 0, roster, 0, roster.length);
        }

        boolean hasPerson(int one) {
            return one >= 0 && one < people;
        }

        boolean hasDay(int day) {
            return day >= 0 && day < days;
        }

        Rule ruleAt(int number) {
            return number < 0 || number >= ruleCount ? null : rules[number];
        }

        int addRule(Rule told) {
            if (ruleCount >= MOST_RULES) {
                return FULL;
            }
            rules[ruleCount] = told;
            machine = told.joined;
            ruleCount++;
            return ruleCount - 1;
        }

        void dropRule() {
            if (ruleCount > 0) {
                ruleCount--;
                Rule latest = ruleAt(ruleCount - 1);
                machine = latest == null ? free : latest.joined;
            }
        }

        int shiftAt(int one, int day) {
            return roster[rosterPlace(one, day)];
        }

        int wishOf(int one, int day, int shift) {
            return wishes[wishPlace(one, day, shift)];
        }

        int changeOf(int from, int to) {
            return changes[from * SHIFTS + to];
        }

        int penaltyOf(int one) {
            int sum = 0;
            for (int day = 0; day < days; day++) {
                int shift = shiftAt(one, day);
                sum += wishOf(one, day, shift);
                if (day > 0) {
                    sum += changeOf(shiftAt(one, day - 1), shift);
                }
            }
            return sum;
        }

        int allPenalties() {
            int sum = 0;
            for (int one = 0; one < people; one++) {
                sum += penaltyOf(one);
            }
            return sum;
        }

        /** How many of PEOPLE stand ahead of one, the greatest PENALTY first, of like ones the least. */
        int worseThan(int one) {
            int own = penaltyOf(one);
            int worse = 0;
            for (int other = 0; other < people; other++) {
                int penalty = penaltyOf(other);
                if (penalty > own || (penalty == own && other < one)) {
                    worse++;
                }
            }
            return worse;
        }

        /** The STATE of THE MACHINE behind the DAYS ahead of a DAY. */
        int stateAhead(int one, int day) {
            int state = 0;
            for (int d = 0; d < day; d++) {
                state = machine.after(state, shiftAt(one, d));
            }
            return state;
        }

        boolean isAccepted(int one) {
            return machine.accepts(stateAhead(one, days));
        }

        boolean isLawful() {
            for (int one = 0; one < people; one++) {
                if (!isAccepted(one)) {
                    return false;
                }
            }
            return true;
        }

        int howManyHave(int day, int shift) {
            int have = 0;
            for (int one = 0; one < people; one++) {
                if (shiftAt(one, day) == shift) {
                    have++;
                }
            }
            return have;
        }

        int shortOf(int day, int shift) {
            return Math.max(0, needs[day * SHIFTS + shift] - howManyHave(day, shift));
        }

        int shortInAll() {
            int sum = 0;
            for (int day = 0; day < days; day++) {
                for (int shift = 0; shift < SHIFTS; shift++) {
                    sum += shortOf(day, shift);
                }
            }
            return sum;
        }

        void exchangeDays(int one, int other, int first, int last) {
            for (int day = first; day <= last; day++) {
                int shift = shiftAt(one, day);
                roster[rosterPlace(one, day)] = shiftAt(other, day);
                roster[rosterPlace(other, day)] = shift;
            }
        }
    }

    /**
     * Reads a PATTERN and holds which of its letters may come behind which. What is read of a word is told
     * by a set of letters (bits), those that the word's latest SHIFT may have been read by.
     */
    private static final class Pattern {
        private static final int MOST_LETTERS = 10, MOST_OPEN = 5;
        /** A bit beside the letters': nothing is read yet. */
        static final int START = 1 << MOST_LETTERS;
        /** All bits: stands for every set that MATCHES, where what comes behind it does not matter. */
        static final int MATCHED = 2 * START - 1;
        private static final int FAILED = -1;
        private static final int LETTER_BITS = START - 1, OPTIONAL = 1 << 2 * MOST_LETTERS;

        private final int[] follow = new int[MOST_LETTERS];
        private final int[] readers = new int[SHIFTS];
        private Text text = null;
        private int place = 0;
        private int letters = 0;
        private int first = 0;
        private int ends = 0;

        /** The FAULT of a text; -1, if it is a PATTERN, and that one is held then. */
        int faultOf(Text told) {
            text = told;
            place = 0;
            letters = 0;
            Arrays.fill(follow, 0);
            Arrays.fill(readers, 0);
            int part = readChoice(0);
            if (part == FAILED || place < told.size) {
                return place;
            }
            first = firstOf(part);
            ends = lastOf(part) | (isOptional(part) ? START : 0);
            return -1;
        }

        boolean isMatch(int set) {
            return (set & ends) != 0;
        }

        int startOf(int kind) {
            return settle(START, kind);
        }

        /** The letters that may come behind a set, whatever SHIFT is read. */
        int lettersBehind(int set) {
            int behind = (set & START) != 0 ? first : 0;
            for (int letter = 0; letter < letters; letter++) {
                if ((set >> letter & 1) != 0) {
                    behind |= follow[letter];
                }
            }
            return behind;
        }

        /** The set behind another by a SHIFT, the letters behind that other one being told. */
        int after(int set, int behind, int shift, int kind) {
            if (kind != WHOLE && isMatch(set)) {
                return MATCHED;
            }
            int to = behind & readers[shift];
            return settle(kind == NEVER ? to | START : to, kind);
        }

        private int settle(int set, int kind) {
            return kind != WHOLE && isMatch(set) ? MATCHED : set;
        }

        // A part that is read is told by one number: its first letters, its last ones, whether it may be nothing.

        private static int partOf(int firsts, int lasts, boolean optional) {
            return firsts | lasts << MOST_LETTERS | (optional ? OPTIONAL : 0);
        }

        private static int firstOf(int part) {
            return part & LETTER_BITS;
        }

        private static int lastOf(int part) {
            return part >> MOST_LETTERS & LETTER_BITS;
        }

        private static boolean isOptional(int part) {
            return (part & OPTIONAL) != 0;
        }

        private int readChoice(int depth) {
            int part = readChain(depth);
            while (part != FAILED && place < MOST_BYTES && signHere() == '|' && hasLetterLeft()) {
                place++;
                int other = readChain(depth);
                part = other == FAILED ? FAILED : part | other;
            }
            return part;
        }

        private int readChain(int depth) {
            int part = readRepeat(depth);
            for (int i = 0; i < MOST_BYTES && part != FAILED && beginsPart(signHere()); i++) {
                int behind = readRepeat(depth);
                part = behind == FAILED ? FAILED : oneBehind(part, behind);
            }
            return part;
        }

        private int oneBehind(int part, int behind) {
            link(part, behind);
            int firsts = firstOf(part) | (isOptional(part) ? firstOf(behind) : 0);
            int lasts = lastOf(behind) | (isOptional(behind) ? lastOf(part) : 0);
            return partOf(firsts, lasts, isOptional(part) && isOptional(behind));
        }

        private void link(int part, int behind) {
            for (int letter = 0; letter < letters; letter++) {
                if ((lastOf(part) >> letter & 1) != 0) {
                    follow[letter] |= firstOf(behind);
                }
            }
        }

        private int readRepeat(int depth) {
            int part = readAtom(depth);
            int sign = signHere();
            if (part == FAILED || (sign != '*' && sign != '+' && sign != '?')) {
                return part;
            }
            place++;
            if (sign != '?') {
                link(part, part);
            }
            return sign == '+' ? part : part | OPTIONAL;
        }

        private int readAtom(int depth) {
            int sign = signHere();
            if (sign == '(') {
                return readBracket(depth);
            }
            if (!beginsPart(sign) || !hasLetterLeft()) {
                return FAILED;
            }
            int bit = 1 << letters;
            for (int shift = 0; shift < SHIFTS; shift++) {
                if (sign == '.' || shiftOf(sign) == shift) {
                    readers[shift] |= bit;
                }
            }
            letters++;
            place++;
            return partOf(bit, bit, false);
        }

        private int readBracket(int depth) {
            if (depth >= MOST_OPEN || !hasLetterLeft()) {
                return FAILED;
            }
            place++;
            int part = readChoice(depth + 1);
            if (part == FAILED || signHere() != ')') {
                return FAILED;
            }
            place++;
            return part;
        }

        /** Behind a ( or a | a letter has to come: where none is left, these can't stand either. */
        private boolean hasLetterLeft() {
            return letters < MOST_LETTERS;
        }

        private int signHere() {
            return text == null ? 0 : text.byteAt(place);
        }

        private static boolean beginsPart(int sign) {
            return sign == '(' || sign == '.' || shiftOf(sign) >= 0;
        }
    }

    /** Makes least machines. Its rows are large, so they are made once and used for each machine. */
    private static final class Maker {
        /** All sets of ten letters, and the start; where MATCHED is one, it stands for half of them and more. */
        private static final int MOST_SETS = 1025;
        private static final int SLOTS = 2048, SIGN_SLOTS = 128;
        /** A class of places takes as many bits: five of them fit in one number. */
        private static final int CLASS_BITS = 6, CLASS_MASK = 63;
        private static final int SPREAD = 0x9E3779B1;

        final Pattern pattern = new Pattern();
        private final int[] codes = new int[MOST_SETS];
        private final int[] slots = new int[SLOTS];
        private final int[] steps = new int[MOST_SETS * SHIFTS];
        private final boolean[] ends = new boolean[MOST_SETS];
        private final Machine[] sides = new Machine[MOST_RULES];
        private int[] classes = new int[MOST_SETS];
        private int[] finer = new int[MOST_SETS];
        private final int[] signs = new int[MOST_STATES];
        private final int[] signSlots = new int[SIGN_SLOTS];
        private int size = 0;
        private int signCount = 0;

        /** The least machine for the PATTERN that was read last; null, if it has too many STATES. */
        Machine machineOfPattern(int kind) {
            startWith(pattern.startOf(kind));
            for (int place = 0; place < size && place < MOST_SETS; place++) {
                int set = codes[place];
                int behind = pattern.lettersBehind(set);
                ends[place] = pattern.isMatch(set) != (kind == NEVER);
                for (int shift = 0; shift < SHIFTS; shift++) {
                    int to = placeOf(pattern.after(set, behind, shift, kind), MOST_SETS);
                    if (to < 0) {
                        return null;
                    }
                    steps[place * SHIFTS + shift] = to;
                }
            }
            return leastMachine();
        }

        /** The least machine for some RULES and one more together; null, if that comes to too much. */
        Machine machineOfAll(Rule[] rules, int ruleCount, Machine latest) {
            int sideCount = 0;
            for (int i = 0; i < ruleCount && i < rules.length && sideCount < MOST_RULES - 1; i++) {
                if (rules[i] != null) {
                    sides[sideCount] = rules[i].alone;
                    sideCount++;
                }
            }
            sides[sideCount] = latest;
            sideCount++;
            startWith(0);
            for (int place = 0; place < size && place < MOST_PLACES; place++) {
                ends[place] = allAccept(codes[place], sideCount);
                for (int shift = 0; shift < SHIFTS; shift++) {
                    int to = placeOf(allAfter(codes[place], shift, sideCount), MOST_PLACES);
                    if (to < 0) {
                        return null;
                    }
                    steps[place * SHIFTS + shift] = to;
                }
            }
            return leastMachine();
        }

        private boolean allAccept(int code, int sideCount) {
            for (int i = 0; i < sideCount; i++) {
                if (!sides[i].accepts(code >> CLASS_BITS * i & CLASS_MASK)) {
                    return false;
                }
            }
            return true;
        }

        private int allAfter(int code, int shift, int sideCount) {
            int to = 0;
            for (int i = 0; i < sideCount; i++) {
                to |= sides[i].after(code >> CLASS_BITS * i & CLASS_MASK, shift) << CLASS_BITS * i;
            }
            return to;
        }

        private void startWith(int code) {
            Arrays.fill(slots, 0);
            size = 0;
            placeOf(code, 1);
        }

        /** The number of a place, which it gets when it is met first; -1, if it would be one too many. */
        private int placeOf(int code, int most) {
            int slot = code * SPREAD >>> 21;
            for (int i = 0; i < SLOTS; i++) {
                int held = slots[slot] - 1;
                if (held < 0) {
                    return addPlace(code, slot, most);
                }
                if (codes[held] == code) {
                    return held;
                }
                slot = (slot + 1) % SLOTS;
            }
            return -1;
        }

        private int addPlace(int code, int slot, int most) {
            if (size >= most || size >= MOST_SETS) {
                return -1;
            }
            codes[size] = code;
            size++;
            slots[slot] = size;
            return size - 1;
        }

        /**
         * Places that no word tells apart become one STATE; null, if there are too many. Places are numbered
         * as they are met, and classes by their first place: so STATES are numbered as they are met, too.
         */
        private Machine leastMachine() {
            for (int place = 0; place < size; place++) {
                classes[place] = ends[place] == ends[0] ? 0 : 1;
            }
            int before = 0;
            for (int round = 0; round <= MOST_STATES; round++) {
                if (!refine()) {
                    return null;
                }
                if (signCount == before) {
                    return machineOfClasses();
                }
                before = signCount;
            }
            return null;
        }

        /** One round: places of one class stay together, if their next ones do. Whether classes are few enough. */
        private boolean refine() {
            Arrays.fill(signSlots, 0);
            signCount = 0;
            for (int place = 0; place < size; place++) {
                int sign = classes[place];
                for (int shift = 0; shift < SHIFTS; shift++) {
                    sign = sign << CLASS_BITS | classes[steps[place * SHIFTS + shift]];
                }
                int number = classOf(sign);
                if (number < 0) {
                    return false;
                }
                finer[place] = number;
            }
            int[] coarser = classes;
            classes = finer;
            finer = coarser;
            return true;
        }

        private int classOf(int sign) {
            int slot = sign * SPREAD >>> 25;
            for (int i = 0; i < SIGN_SLOTS; i++) {
                int held = signSlots[slot] - 1;
                if (held < 0) {
                    return addSign(sign, slot);
                }
                if (signs[held] == sign) {
                    return held;
                }
                slot = (slot + 1) % SIGN_SLOTS;
            }
            return -1;
        }

        private int addSign(int sign, int slot) {
            if (signCount >= MOST_STATES) {
                return -1;
            }
            signs[signCount] = sign;
            signCount++;
            signSlots[slot] = signCount;
            return signCount - 1;
        }

        private Machine machineOfClasses() {
            int[] least = new int[signCount * SHIFTS];
            long accepting = 0;
            for (int place = 0; place < size; place++) {
                int state = classes[place];
                for (int shift = 0; shift < SHIFTS; shift++) {
                    least[state * SHIFTS + shift] = classes[steps[place * SHIFTS + shift]];
                }
                if (ends[place]) {
                    accepting |= 1L << state;
                }
            }
            return new Machine(least, accepting);
        }
    }

    /** How many words of so many DAYS are ACCEPTED from each STATE on. */
    private static final class Ways {
        private final int[] table = new int[(MOST_DAYS + 1) * MOST_STATES];
        private Machine machine = null;

        /** Machines never change, so the table holds as long as THE MACHINE is the same. */
        void lookAt(Machine now) {
            if (now == machine) {
                return;
            }
            machine = now;
            for (int state = 0; state < now.size; state++) {
                table[state] = now.accepts(state) ? 1 : 0;
            }
            for (int days = 1; days <= MOST_DAYS; days++) {
                for (int state = 0; state < now.size; state++) {
                    int sum = 0;
                    for (int shift = 0; shift < SHIFTS; shift++) {
                        sum += behind(now.after(state, shift), days - 1);
                    }
                    table[days * MOST_STATES + state] = sum;
                }
            }
        }

        int behind(int state, int days) {
            return table[days * MOST_STATES + state];
        }

        /** Of the i-th ACCEPTED word of so many DAYS the SHIFT of a DAY; there is an i-th. */
        int shiftOfNth(long i, int day, int days) {
            long left = i;
            int state = 0;
            int shift = 0;
            for (int d = 0; d <= day && machine != null; d++) {
                shift = 0;
                int begun = behind(machine.after(state, shift), days - d - 1);
                while (shift < SHIFTS - 1 && left >= begun) {
                    left -= begun;
                    shift++;
                    begun = behind(machine.after(state, shift), days - d - 1);
                }
                state = machine.after(state, shift);
            }
            return shift;
        }
    }

    /** BEST of one: by layers of DAYS from the last one back, then forward by the least SHIFT that reaches it. */
    private static final class BestRow {
        private static final int FAR = 1 << 20;
        final int[] shifts = new int[MOST_DAYS];
        int cost = 0;
        private final int[] costs = new int[(MOST_DAYS + 1) * MOST_STATES * SHIFTS];
        private final int[] onward = new int[SHIFTS];

        /** Whether there is a BEST; it is held then. */
        boolean find(Plan plan, int one) {
            weighEnds(plan);
            for (int day = plan.days - 1; day > 0; day--) {
                weighDay(plan, one, day);
            }
            weighOnward(plan, one, 0, 0);
            cost = onward[leastOnward(plan, -1)];
            if (cost >= FAR) {
                return false;
            }
            walk(plan, one);
            return true;
        }

        private static int costPlace(int day, int state, int from) {
            return (day * MOST_STATES + state) * SHIFTS + from;
        }

        private void weighEnds(Plan plan) {
            for (int state = 0; state < plan.machine.size; state++) {
                int end = plan.machine.accepts(state) ? 0 : FAR;
                for (int from = 0; from < SHIFTS; from++) {
                    costs[costPlace(plan.days, state, from)] = end;
                }
            }
        }

        private void weighDay(Plan plan, int one, int day) {
            for (int state = 0; state < plan.machine.size; state++) {
                weighOnward(plan, one, day, state);
                for (int from = 0; from < SHIFTS; from++) {
                    int shift = leastOnward(plan, from);
                    costs[costPlace(day, state, from)] = onward[shift] + plan.changeOf(from, shift);
                }
            }
        }

        /** For each SHIFT what it costs from a DAY and a STATE on, but for the CHANGE to it. */
        private void weighOnward(Plan plan, int one, int day, int state) {
            for (int shift = 0; shift < SHIFTS; shift++) {
                int to = plan.machine.after(state, shift);
                onward[shift] = plan.wishOf(one, day, shift) + costs[costPlace(day + 1, to, shift)];
            }
        }

        /** The first SHIFT that costs least behind another; behind none, if that is below 0. */
        private int leastOnward(Plan plan, int from) {
            int least = 0;
            int leastCost = 0;
            for (int shift = 0; shift < SHIFTS; shift++) {
                int here = onward[shift] + (from < 0 ? 0 : plan.changeOf(from, shift));
                if (shift == 0 || here < leastCost) {
                    leastCost = here;
                    least = shift;
                }
            }
            return least;
        }

        private void walk(Plan plan, int one) {
            int state = 0;
            int from = -1;
            for (int day = 0; day < plan.days; day++) {
                weighOnward(plan, one, day, state);
                from = leastOnward(plan, from);
                shifts[day] = from;
                state = plan.machine.after(state, from);
            }
        }
    }

    /** Looks for THE MEND. */
    private static final class Mends {
        int one = 0;
        int day = 0;
        int shift = 0;
        private int cost = 0;
        private boolean found = false;
        private final int[] spare = new int[MOST_DAYS * SHIFTS];

        /** Whether there is a MEND; THE MEND is held then. */
        boolean find(Plan plan) {
            found = false;
            countSpare(plan);
            for (int someone = 0; someone < plan.people; someone++) {
                for (int d = 0; d < plan.days; d++) {
                    // only where one too many has a SHIFT does its loss leave SHORT as it is
                    if (spare[d * SHIFTS + plan.shiftAt(someone, d)] > 0) {
                        lookAtDay(plan, someone, d);
                    }
                }
            }
            return found;
        }

        /** How many more have a SHIFT than are needed; below 0, if it is SHORT. */
        private void countSpare(Plan plan) {
            for (int d = 0; d < plan.days; d++) {
                for (int s = 0; s < SHIFTS; s++) {
                    spare[d * SHIFTS + s] = plan.howManyHave(d, s) - plan.needs[d * SHIFTS + s];
                }
            }
        }

        private void lookAtDay(Plan plan, int someone, int d) {
            int place = rosterPlace(someone, d);
            int was = plan.roster[place];
            for (int s = 0; s < SHIFTS; s++) {
                if (spare[d * SHIFTS + s] < 0) {
                    plan.roster[place] = s;
                    lookAtRow(plan, someone, d);
                }
            }
            plan.roster[place] = was;
        }

        /** ROSTER is just now as the MEND would leave it. */
        private void lookAtRow(Plan plan, int someone, int d) {
            int then = plan.penaltyOf(someone);
            if ((!found || then < cost) && plan.isAccepted(someone)) {
                found = true;
                cost = then;
                one = someone;
                day = d;
                shift = plan.shiftAt(someone, d);
            }
        }
    }

    /** Looks at SWAPS, for THE SWAP. */
    private static final class Exchanges {
        int one = 0;
        int other = 0;
        int first = 0;
        int last = 0;
        int gain = 0;
        private final int[] wishGains = new int[MOST_DAYS];
        private final int[] seamGains = new int[MOST_DAYS + 1];

        /** Whether there is a SWAP that GAINS; THE SWAP is held then. */
        boolean find(Plan plan) {
            gain = 0;
            for (int a = 0; a < plan.people; a++) {
                for (int b = a + 1; b < plan.people; b++) {
                    weighPair(plan, a, b);
                    for (int i = 0; i < plan.days; i++) {
                        lookFrom(plan, a, b, i);
                    }
                }
            }
            return gain > 0;
        }

        /** Each gain is part of many SWAPS of the two, so it is looked up once. */
        private void weighPair(Plan plan, int a, int b) {
            for (int day = 0; day < plan.days; day++) {
                wishGains[day] = wishGain(plan, a, b, day);
                seamGains[day] = seamGain(plan, a, b, day);
            }
            seamGains[plan.days] = 0;
        }

        private void lookFrom(Plan plan, int a, int b, int i) {
            int inside = seamGains[i];
            for (int j = i; j < plan.days; j++) {
                inside += wishGains[j];
                int all = inside + seamGains[j + 1];
                if (all > gain && bothAccepted(plan, a, b, i, j)) {
                    one = a;
                    other = b;
                    first = i;
                    last = j;
                    gain = all;
                }
            }
        }

        /** What a SWAP GAINS, or that it MAY not be. */
        int gainIfItMay(Plan plan, int a, int b, int i, int j) {
            boolean alike = true;
            int all = seamGain(plan, a, b, i) + seamGain(plan, a, b, j + 1);
            for (int day = i; day <= j; day++) {
                alike = alike && plan.shiftAt(a, day) == plan.shiftAt(b, day);
                all += wishGain(plan, a, b, day);
            }
            return alike || !bothAccepted(plan, a, b, i, j) ? MAY_NOT : all;
        }

        private static int wishGain(Plan plan, int a, int b, int day) {
            int own = plan.shiftAt(a, day);
            int others = plan.shiftAt(b, day);
            return plan.wishOf(a, day, own) - plan.wishOf(a, day, others)
                    + plan.wishOf(b, day, others) - plan.wishOf(b, day, own);
        }

        /**
         * What is gained between a DAY and the one ahead of it, where a SWAP begins or has just ended.
         * CHANGES within a SWAP go over to the other one whole: together they stay the same.
         */
        private static int seamGain(Plan plan, int a, int b, int day) {
            if (day <= 0 || day >= plan.days) {
                return 0;
            }
            int ownFrom = plan.shiftAt(a, day - 1);
            int own = plan.shiftAt(a, day);
            int othersFrom = plan.shiftAt(b, day - 1);
            int others = plan.shiftAt(b, day);
            return plan.changeOf(ownFrom, own) + plan.changeOf(othersFrom, others)
                    - plan.changeOf(ownFrom, others) - plan.changeOf(othersFrom, own);
        }

        private static boolean bothAccepted(Plan plan, int a, int b, int i, int j) {
            return isMixAccepted(plan, a, b, i, j) && isMixAccepted(plan, b, a, i, j);
        }

        /** Whether the ROW of one, with another's SHIFTS from DAY i to j, is ACCEPTED. */
        private static boolean isMixAccepted(Plan plan, int own, int others, int i, int j) {
            int state = 0;
            for (int day = 0; day < plan.days; day++) {
                state = plan.machine.after(state, plan.shiftAt(day >= i && day <= j ? others : own, day));
            }
            return plan.machine.accepts(state);
        }
    }
}

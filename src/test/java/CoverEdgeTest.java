/** Penalties, cover, swaps: the boundary sentences of promises 24 to 35. */
public final class CoverEdgeTest extends Edge {
    public static void main(String[] args) {
        penalty();
        best();
        better();
        accepted();
        lacks();
        mend();
        repair();
        repairTillNone();
        swap();
        swaps();
        bestSwap();
        improve();
        improveTillNone();
        worst();
        end(24, 35);
    }

    private static RosterLanes emptyTape() {
        RosterLanes x = told();
        x.clear();
        return x;
    }

    /** No ROW of four DAYS is ACCEPTED. */
    private static RosterLanes noRow() {
        RosterLanes x = emptyTape();
        rule(x, 0, "...");
        return feed(x, "od|e");
    }

    private static void penalty() {
        says(24, "PENALTY of ROSTER's ROW of one. NONE.");
        for (int one : outside(0, 2)) {
            refused("penalty(" + one + ")", NONE, x -> x.penalty(one));
        }
        refused("penalty(0)", 15, x -> x.penalty(0));
        refused("penalty(1)", 6, x -> x.penalty(1));
        refused("penalty(2)", 5, x -> x.penalty(2));
        changes("penalty of a row that isn't accepted", 15, CoverEdgeTest::noRow, x -> x.penalty(0));
        RosterLanes x = new RosterLanes();
        due("at first", x.penalty(1), 0);
        due("no one 2", x.penalty(2), NONE);
        x.begin(6, 14);
        due("the last of six", x.penalty(5), 0);
        due("no one 6", x.penalty(6), NONE);
        x.change(0, 0, 99);
        for (int day = 0; day < 14; day++) {
            x.wish(5, day, 0, 99);
        }
        due("the greatest", x.penalty(5), 14 * 99 + 13 * 99);
        due("of all", x.sums(5), 14 * 99 + 6 * 13 * 99);
    }

    private static void best() {
        says(25, "BEST of one: its PENALTY (day -1), its SHIFT on a DAY. NONE: one, day; STATE: no ROW is ACCEPTED.");
        for (int one : outside(0, 2)) {
            refused("best(" + one + ", 0)", NONE, x -> x.best(one, 0));
            refused("best(" + one + ", -1)", NONE, x -> x.best(one, -1));
            changes("best(" + one + ", 0), none ahead of no row", NONE, CoverEdgeTest::noRow, x -> x.best(one, 0));
        }
        for (int day : outside(-1, 3)) {
            refused("best(0, " + day + ")", NONE, x -> x.best(0, day));
            changes("best(0, " + day + "), none ahead of no row", NONE, CoverEdgeTest::noRow, x -> x.best(0, day));
        }
        for (int day = -1; day < 4; day++) {
            int of = day;
            changes("best(2, " + of + ") without a row", STATE, CoverEdgeTest::noRow, x -> x.best(2, of));
        }
        int[][] bests = {{0, 1, 0, 0, 0}, {0, 0, 0, 0, 0}, {0, 0, 0, 0, 2}};
        for (int one = 0; one < 3; one++) {
            for (int day = -1; day < 4; day++) {
                int of = one;
                int on = day;
                refused("best(" + of + ", " + on + ")", bests[one][day + 1], x -> x.best(of, on));
            }
        }
        RosterLanes x = of(6, 14);
        rule(x, 0, "n*");
        x.change(3, 3, 99);
        for (int day = 0; day < 14; day++) {
            x.wish(5, day, 3, 99);
        }
        due("the greatest", x.best(5, -1), 27 * 99);
        same("the only row", best(x, 5), "nnnnnnnnnnnnnn");
        due("no day 14", x.best(5, 14), NONE);
        x.drop();
        rule(x, 0, "o?(d|.......)*d");
        due("by 60 states", x.states(-1), 60);
        same("the first of all", best(x, 5), "oooooooodddddd");
        x.drop();
        rule(x, 0, "n*");
        x.begin(1, 1);
        due("of one day", x.best(0, 0), 3);
        due("no change on one day", x.best(0, -1), 0);
        due("no day 1", x.best(0, 1), NONE);
    }

    private static void better() {
        says(26, "ROSTER's ROW of one becomes its BEST: by how much PENALTY is less (below 0, if it is more). NONE; STATE: no "
                + "ROW is ACCEPTED.");
        for (int one : outside(0, 2)) {
            refused("better(" + one + ")", NONE, x -> x.better(one));
            changes("better(" + one + "), none ahead of no row", NONE, CoverEdgeTest::noRow, x -> x.better(one));
        }
        changes("better(0) without a row", STATE, CoverEdgeTest::noRow, x -> x.better(0));
        changes("better(2) without a row", STATE, CoverEdgeTest::noRow, x -> x.better(2));
        changes("better(0)", 15, x -> x.better(0), "ROSTER");
        changes("better(1)", 6, x -> x.better(1), "ROSTER");
        changes("better(2)", 5, x -> x.better(2), "ROSTER");
        RosterLanes x = told();
        x.better(2);
        same("its best", roster(x, 2), "oooe");
        same("another's stays", roster(x, 0), "oden");
        due("it is its best", x.better(2), 0);
        same("it stays", roster(x, 2), "oooe");
        RosterLanes y = of(1, 2);
        rule(y, 0, "n.");
        y.change(3, 0, 4);
        y.change(3, 1, 7);
        y.change(3, 2, 3);
        y.change(3, 3, 3);
        due("it is more", y.better(0), -3);
        same("the first of the least", roster(y, 0), "ne");
        row(y, 0, "nn");
        due("neither less nor more", y.better(0), 0);
        same("the first of the least", roster(y, 0), "ne");
        RosterLanes z = of(6, 14);
        rule(z, 0, "n*");
        for (int one = 5; one >= 0; one--) {
            due("better(" + one + ") of six", z.better(one), 0);
            same("its row", roster(z, one), "nnnnnnnnnnnnnn");
            same("the first row", roster(z, 0), one == 0 ? "nnnnnnnnnnnnnn" : "oooooooooooooo");
        }
    }

    private static void accepted() {
        says(27, "Whether ROSTER's ROW of one is ACCEPTED (1, 0); one -1: LAWFUL. NONE.");
        for (int one : outside(-1, 2)) {
            refused("accepted(" + one + ")", NONE, x -> x.accepted(one));
        }
        for (int one = -1; one < 3; one++) {
            int of = one;
            refused("accepted(" + of + ")", 1, x -> x.accepted(of));
            changes("accepted(" + of + ") without a row", 0, CoverEdgeTest::noRow, x -> x.accepted(of));
        }
        for (int one = 0; one < 3; one++) {
            RosterLanes x = emptyTape();
            row(x, one, "oonn");
            for (int other = 0; other < 3; other++) {
                due("accepted(" + other + "), " + one + " isn't", x.accepted(other), other == one ? 0 : 1);
            }
            due("lawful, " + one + " isn't", x.accepted(-1), 0);
            x.begin(1, 4);
            due("lawful again", x.accepted(-1), 1);
        }
        RosterLanes x = of(6, 14);
        due("the last of six", x.accepted(5), 1);
        due("no one 6", x.accepted(6), NONE);
        rule(x, 1, "n");
        x.put(5, 13, 3);
        due("by the last day of the last", x.accepted(-1), 0);
        due("by the last day", x.accepted(5), 0);
    }

    private static void lacks() {
        says(28, "SHORT of a DAY and a SHIFT; day -1: in all (shift does not matter). NONE.");
        for (int day : outside(-1, 3)) {
            refused("lacks(" + day + ", 0)", NONE, x -> x.lacks(day, 0));
        }
        for (int shift : outside(0, 3)) {
            refused("lacks(0, " + shift + ")", NONE, x -> x.lacks(0, shift));
            refused("lacks(3, " + shift + ")", NONE, x -> x.lacks(3, shift));
            refused("lacks(-1, " + shift + ")", 2, x -> x.lacks(-1, shift));
        }
        for (int shift = 0; shift < 4; shift++) {
            int of = shift;
            refused("lacks(-1, " + of + ")", 2, x -> x.lacks(-1, of));
            refused("lacks(0, " + of + ")", of == 1 ? 1 : 0, x -> x.lacks(0, of));
            refused("lacks(3, " + of + ")", of == 3 ? 1 : 0, x -> x.lacks(3, of));
        }
        RosterLanes x = of(6, 14);
        for (int day = 0; day < 14; day++) {
            for (int shift = 0; shift < 4; shift++) {
                x.need(day, shift, 6);
            }
        }
        due("all of six", x.lacks(13, 0), 0);
        due("none of six", x.lacks(13, 3), 6);
        due("in all, the most", x.lacks(-1, 0), 14 * 18);
        x.put(5, 13, 3);
        due("five of six", x.lacks(13, 0), 1);
        due("one of six", x.lacks(13, 3), 5);
        due("in all", x.lacks(-1, 0), 14 * 18);
        x.need(13, 0, 4);
        due("one too many is no less than 0", x.lacks(13, 0), 0);
        due("nor does it count elsewhere", x.lacks(-1, 0), 14 * 18 - 1);
        due("no day 14", x.lacks(14, 0), NONE);
        x.begin(1, 1);
        due("no day 1", x.lacks(1, 0), NONE);
        due("nothing is needed", x.lacks(-1, 0), 0);
    }

    private static void mend() {
        says(29, "THE MEND: what 0 one of PEOPLE, 1 DAY, 2 SHIFT, 3 SHORT in all then; -5: there is none. NONE.");
        for (int what : outside(0, 3)) {
            refused("mend(" + what + ")", NONE, x -> x.mend(what));
            changes("mend(" + what + "), none ahead of -5", NONE, CoverEdgeTest::noRow, x -> x.mend(what));
        }
        int[] told = {2, 3, 3, 1};
        for (int what = 0; what <= 3; what++) {
            int of = what;
            refused("mend(" + of + ")", told[what], x -> x.mend(of));
            changes("mend(" + of + "), there is none", THERE_IS_NONE, CoverEdgeTest::noRow, x -> x.mend(of));
            due("mend(" + of + "), nothing is short", new RosterLanes().mend(of), THERE_IS_NONE);
        }
        RosterLanes x = of(6, 14);
        x.need(13, 3, 6);
        for (int one = 0; one < 5; one++) {
            x.put(one, 13, 3);
        }
        same("the last of people, day, shift", mend(x), "5 13 3 0");
        RosterLanes y = of(1, 1);
        y.need(0, 1, 6);
        same("the only day", mend(y), "0 0 1 5");
        y.need(0, 0, 1);
        due("no less by it", y.mend(0), THERE_IS_NONE);
    }

    private static void repair() {
        says(30, "REPAIRED, n MENDS at most (1 .. 40): how many. BAD.");
        for (int n : outside(1, 40)) {
            refused("repair(" + n + ")", BAD, x -> x.repair(n));
            changes("repair(" + n + "), bad though there is none", BAD, CoverEdgeTest::noRow, x -> x.repair(n));
        }
        changes("repair(1)", 1, x -> x.repair(1), "ROSTER");
        changes("repair(2)", 2, x -> x.repair(2), "ROSTER");
        changes("repair(40)", 2, x -> x.repair(40), "ROSTER");
        changes("repair(40), there is none", 0, CoverEdgeTest::noRow, x -> x.repair(40));
        RosterLanes x = told();
        x.repair(1);
        same("the one", roster(x, 2), "eeon");
        same("no other", roster(x, 0) + roster(x, 1), "odennedo");
        x.repair(1);
        same("the next", roster(x, 0), "dden");
        due("no more", x.repair(1), 0);
    }

    /** 84 MENDS, 40 at most in a call. */
    private static void repairTillNone() {
        says(30, "n MENDS at most (1 .. 40): how many.");
        RosterLanes x = of(6, 14);
        for (int day = 0; day < 14; day++) {
            x.need(day, 3, 6);
        }
        due("repair(41)", x.repair(41), BAD);
        due("repair(40)", x.repair(40), 40);
        due("short in all", x.lacks(-1, 0), 44);
        due("repair(40)", x.repair(40), 40);
        due("repair(1)", x.repair(1), 1);
        due("short in all", x.lacks(-1, 0), 3);
        due("repair(40)", x.repair(40), 3);
        due("repair(40)", x.repair(40), 0);
        for (int one = 0; one < 6; one++) {
            same("row " + one, roster(x, one), "nnnnnnnnnnnnnn");
        }
    }

    private static void swap() {
        says(31, "What a SWAP GAINS (below 0, if it costs more). NONE: a, b (a not below b, too), i, j (i above j, too); "
                + "-100000: it MAY not be.");
        for (int one : outside(0, 2)) {
            refused("swap(" + one + ", 1, 0, 0)", NONE, x -> x.swap(one, 1, 0, 0));
            refused("swap(1, " + one + ", 0, 0)", NONE, x -> x.swap(1, one, 0, 0));
            refused("swap(" + one + ", " + one + ", 0, 0)", NONE, x -> x.swap(one, one, 0, 0));
        }
        for (int day : outside(0, 3)) {
            refused("swap(0, 1, " + day + ", 1)", NONE, x -> x.swap(0, 1, day, 1));
            refused("swap(0, 1, 1, " + day + ")", NONE, x -> x.swap(0, 1, 1, day));
            refused("swap(0, 1, " + day + ", " + day + ")", NONE, x -> x.swap(0, 1, day, day));
        }
        refused("swap(1, 1, 0, 0), alike", NONE, x -> x.swap(1, 1, 0, 0));
        refused("swap(1, 0, 0, 0), above", NONE, x -> x.swap(1, 0, 0, 0));
        refused("swap(2, 0, 0, 3), above", NONE, x -> x.swap(2, 0, 0, 3));
        refused("swap(0, 1, 1, 0), above", NONE, x -> x.swap(0, 1, 1, 0));
        refused("swap(0, 1, 3, 2), above", NONE, x -> x.swap(0, 1, 3, 2));
        changes("swap(1, 0, 0, 0), none ahead of what may not be", NONE, CoverEdgeTest::noRow, x -> x.swap(1, 0, 0, 0));
        changes("swap(0, 1, 1, 0), none ahead of what may not be", NONE, CoverEdgeTest::noRow, x -> x.swap(0, 1, 1, 0));
        changes("swap(0, 1, 0, 0), not accepted", MAY_NOT, CoverEdgeTest::noRow, x -> x.swap(0, 1, 0, 0));
        refused("swap(1, 2, 1, 1), nothing changes", MAY_NOT, x -> x.swap(1, 2, 1, 1));
        refused("swap(0, 1, 0, 0), the first day", 12, x -> x.swap(0, 1, 0, 0));
        refused("swap(0, 1, 3, 3), the last day, neither", 0, x -> x.swap(0, 1, 3, 3));
        refused("swap(0, 2, 3, 3), the last day", 5, x -> x.swap(0, 2, 3, 3));
        refused("swap(0, 2, 0, 3), all days", 9, x -> x.swap(0, 2, 0, 3));
        refused("swap(1, 2, 0, 1), a day of it like", 0, x -> x.swap(1, 2, 0, 1));
        RosterLanes x = of(2, 1);
        x.put(0, 0, 1);
        x.wish(0, 0, 0, 99);
        x.wish(1, 0, 1, 99);
        due("the most that one day costs", x.swap(0, 1, 0, 0), -198);
        x.wish(0, 0, 0, 98);
        x.wish(0, 0, 1, 99);
        x.wish(1, 0, 1, 0);
        due("a gain of 1", x.swap(0, 1, 0, 0), 1);
        due("no day 1", x.swap(0, 1, 0, 1), NONE);
        swapAllDays();
    }

    /** In the largest ROSTER: what stands behind the last DAY is nothing, not the next ROW. */
    private static void swapAllDays() {
        RosterLanes x = of(6, 14);
        for (int one = 0; one < 6; one++) {
            x.put(one, 0, one % 4);
            x.put(one, 13, (one + 1) % 4);
            for (int to = 0; to < 4; to++) {
                x.change(one % 4, to, 5 * (one % 4) * to);
            }
        }
        for (int a = 0; a < 6; a++) {
            for (int b = a + 1; b < 6; b++) {
                for (int i = 0; i < 14; i++) {
                    boolean alike = (b - a) % 4 == 0;
                    due("swap(" + a + ", " + b + ", " + i + ", 13)", x.swap(a, b, i, 13), alike ? MAY_NOT : 0);
                }
            }
        }
    }

    private static void swaps() {
        says(32, "A SWAP that MAY be is done: what it GAINED. NONE; -100000 likewise.");
        for (int one : outside(0, 2)) {
            refused("swaps(" + one + ", 1, 0, 0)", NONE, x -> x.swaps(one, 1, 0, 0));
            refused("swaps(1, " + one + ", 0, 0)", NONE, x -> x.swaps(1, one, 0, 0));
        }
        for (int day : outside(0, 3)) {
            refused("swaps(0, 1, " + day + ", 1)", NONE, x -> x.swaps(0, 1, day, 1));
            refused("swaps(0, 1, 1, " + day + ")", NONE, x -> x.swaps(0, 1, 1, day));
        }
        refused("swaps(1, 1, 0, 0), alike", NONE, x -> x.swaps(1, 1, 0, 0));
        refused("swaps(1, 0, 0, 0), above", NONE, x -> x.swaps(1, 0, 0, 0));
        refused("swaps(0, 1, 1, 0), above", NONE, x -> x.swaps(0, 1, 1, 0));
        changes("swaps(2, 0, 0, 0), none ahead of what may not be", NONE, CoverEdgeTest::noRow, x -> x.swaps(2, 0, 0, 0));
        changes("swaps(0, 1, 0, 0), not accepted", MAY_NOT, CoverEdgeTest::noRow, x -> x.swaps(0, 1, 0, 0));
        refused("swaps(1, 2, 1, 1), nothing changes", MAY_NOT, x -> x.swaps(1, 2, 1, 1));
        changes("swaps(0, 1, 0, 0)", 12, x -> x.swaps(0, 1, 0, 0), "ROSTER");
        changes("swaps(0, 2, 0, 3)", 9, x -> x.swaps(0, 2, 0, 3), "ROSTER");
        changes("swaps(0, 1, 3, 3), neither", 0, x -> x.swaps(0, 1, 3, 3), "ROSTER");
        RosterLanes x = told();
        x.swaps(0, 1, 1, 2);
        same("rows", roster(x, 0) + " " + roster(x, 1) + " " + roster(x, 2), "oedn ndeo eeoo");
        due("back, which costs", x.swaps(0, 1, 1, 2), -14);
        same("rows", roster(x, 0) + " " + roster(x, 1) + " " + roster(x, 2), "oden nedo eeoo");
    }

    private static void bestSwap() {
        says(33, "THE SWAP: what 0 a, 1 b, 2 i, 3 j, 4 what it GAINS; -5: there is none. NONE.");
        for (int what : outside(0, 4)) {
            refused("bestSwap(" + what + ")", NONE, x -> x.bestSwap(what));
            changes("bestSwap(" + what + "), none ahead of -5", NONE, CoverEdgeTest::noRow, x -> x.bestSwap(what));
        }
        int[] told = {0, 1, 1, 1, 17};
        for (int what = 0; what <= 4; what++) {
            int of = what;
            refused("bestSwap(" + of + ")", told[what], x -> x.bestSwap(of));
            changes("bestSwap(" + of + "), there is none", THERE_IS_NONE, CoverEdgeTest::noRow, x -> x.bestSwap(of));
            due("bestSwap(" + of + ") of one alone", of(1, 14).bestSwap(of), THERE_IS_NONE);
        }
        RosterLanes x = of(6, 14);
        x.put(5, 13, 3);
        due("no gain", x.bestSwap(4), THERE_IS_NONE);
        x.wish(5, 13, 3, 1);
        for (int one = 0; one < 4; one++) {
            x.wish(one, 13, 3, 1);
        }
        same("a gain of 1 by the last two, on the last day at least", bestSwap(x), "4 5 0 13 1");
        x.put(4, 12, 1);
        x.wish(5, 12, 1, 1);
        same("on the last day alone", bestSwap(x), "4 5 13 13 1");
    }

    private static void improve() {
        says(34, "THE SWAP is done, n times (1 .. 20), or till there is none: how many. BAD.");
        for (int n : outside(1, 20)) {
            refused("improve(" + n + ")", BAD, x -> x.improve(n));
            changes("improve(" + n + "), bad though there is none", BAD, CoverEdgeTest::noRow, x -> x.improve(n));
        }
        changes("improve(1)", 1, x -> x.improve(1), "ROSTER");
        changes("improve(2)", 2, x -> x.improve(2), "ROSTER");
        changes("improve(20)", 2, x -> x.improve(20), "ROSTER");
        changes("improve(20), there is none", 0, CoverEdgeTest::noRow, x -> x.improve(20));
        RosterLanes x = told();
        x.improve(1);
        same("rows", roster(x, 0) + " " + roster(x, 1) + " " + roster(x, 2), "oeen nddo eeoo");
        x.improve(1);
        same("rows", roster(x, 0) + " " + roster(x, 1) + " " + roster(x, 2), "eeoo nddo oeen");
        due("no more", x.improve(1), 0);
    }

    /** 21 SWAPS of one DAY each: on the DAYS in between nobody swaps without loss. */
    private static void improveTillNone() {
        says(34, "n times (1 .. 20), or till there is none: how many.");
        RosterLanes x = of(6, 14);
        for (int one = 0; one < 6; one++) {
            int odd = one % 2;
            for (int day = 0; day < 14; day += 2) {
                x.put(one, day, 2 + odd);
                x.wish(one, day, 2 + odd, 10);
                x.put(one, day + 1, odd);
                x.wish(one, day + 1, 1 - odd, 99);
            }
        }
        due("penalties", x.sums(5), 420);
        due("improve(21)", x.improve(21), BAD);
        due("improve(20)", x.improve(20), 20);
        due("penalties", x.sums(5), 20);
        due("improve(20)", x.improve(20), 1);
        due("penalties", x.sums(5), 0);
        due("improve(20)", x.improve(20), 0);
    }

    private static void worst() {
        says(35, "PEOPLE by PENALTIES: the k-th, the greatest first, of like ones the least. NONE.");
        for (int k : outside(0, 2)) {
            refused("worst(" + k + ")", NONE, x -> x.worst(k));
        }
        refused("worst(0)", 0, x -> x.worst(0));
        refused("worst(1)", 1, x -> x.worst(1));
        refused("worst(2)", 2, x -> x.worst(2));
        RosterLanes x = told();
        x.wish(2, 3, 0, 99);
        due("the greatest", x.worst(0), 2);
        due("the second", x.worst(1), 0);
        due("the least", x.worst(2), 1);
        x.wish(2, 3, 0, 15);
        due("like ones: the least first", x.worst(0), 0);
        due("like ones: then the other", x.worst(1), 2);
        x.begin(6, 14);
        for (int k = 0; k < 6; k++) {
            due("all alike: worst(" + k + ")", x.worst(k), k);
        }
        due("worst(6)", x.worst(6), NONE);
        x.begin(1, 1);
        due("one alone", x.worst(0), 0);
        due("worst(1)", x.worst(1), NONE);
    }
}

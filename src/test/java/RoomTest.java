import java.lang.management.ManagementFactory;
import java.util.Random;

/** Whatever is asked, nothing is thrown and each call ends; and what 512 calls make stays small. */
public final class RoomTest {
    private static final int[] NUMBERS = {0, 0, 1, 1, 2, 2, 3, 4, 5, 6, 7, 13, 14, 15, 20, 29, 30, 31, 40, 60, 99, 111, 127,
        -1, -1, -2, 128, 1 << 30, Integer.MAX_VALUE, Integer.MIN_VALUE, Integer.MAX_VALUE - 3};
    private static final String TAPE = "oden.(|)*+?oden.()oden";
    private static int wrong = 0;

    public static void main(String[] args) {
        for (int seed = 0; seed < 3000; seed++) {
            wild(new Random(seed));
        }
        large();
        System.out.println(wrong == 0 ? "nothing thrown, little made" : wrong + " faults");
        if (wrong != 0) {
            System.exit(1);
        }
    }

    private static void wild(Random random) {
        RosterLanes x = new RosterLanes();
        if (random.nextBoolean()) {
            x.begin(1 + random.nextInt(6), 1 + random.nextInt(14));
        }
        for (int i = 0; i < 512; i++) {
            int call = random.nextInt(52);
            int[] n = new int[4];
            for (int k = 0; k < 4; k++) {
                n[k] = random.nextInt(3) == 0 ? NUMBERS[random.nextInt(NUMBERS.length)] : random.nextInt(4);
            }
            try {
                ask(x, call, n, random);
            } catch (RuntimeException | StackOverflowError thrown) {
                wrong++;
                System.out.println("call " + call + " threw " + thrown);
                return;
            }
        }
    }

    private static void ask(RosterLanes x, int call, int[] n, Random random) {
        switch (call) {
            case 0: if (random.nextInt(8) == 0) x.begin(n[0], n[1]); break;
            case 1: x.wish(n[0], n[1], n[2], n[3]); break;
            case 2: x.change(n[0], n[1], n[2]); break;
            case 3: x.need(n[0], n[1], n[2]); break;
            case 4: x.wished(n[0], n[1], n[2]); break;
            case 5: x.changed(n[0], n[1]); break;
            case 6: x.needed(n[0], n[1]); break;
            case 7: x.feed(n[0]); break;
            case 8: x.clear(); break;
            case 9: case 44: case 45: x.rule(n[0]); break;
            case 10: x.drop(); break;
            case 11: x.row(n[0]); break;
            case 12: x.put(n[0], n[1], n[2]); break;
            case 13: x.at(n[0], n[1]); break;
            case 14: x.states(n[0]); break;
            case 15: x.next(n[0], n[1]); break;
            case 16: x.run(); break;
            case 17: x.allows(n[0]); break;
            case 18: x.count(n[0], n[1]); break;
            case 19: x.nth(random.nextInt(4) == 0 ? random.nextLong() : n[0], n[1]); break;
            case 20: x.ahead(n[0]); break;
            case 21: x.may(n[0], n[1]); break;
            case 22: x.penalty(n[0]); break;
            case 23: x.best(n[0], n[1]); break;
            case 24: x.better(n[0]); break;
            case 25: x.accepted(n[0]); break;
            case 26: x.lacks(n[0], n[1]); break;
            case 27: x.mend(n[0]); break;
            case 28: x.repair(n[0]); break;
            case 29: x.swap(n[0], n[1], n[2], n[3]); break;
            case 30: x.swaps(n[0], n[1], n[2], n[3]); break;
            case 31: x.bestSwap(n[0]); break;
            case 32: x.improve(n[0]); break;
            case 33: x.worst(n[0]); break;
            case 34: x.judge(n[0], n[1]); break;
            case 35: x.lay(n[0], n[1], n[2]); break;
            case 36: x.spell(n[0], n[1]); break;
            case 37: x.paper(n[0]); break;
            case 38: x.sums(n[0]); break;
            case 39: x.list(n[0], n[1]); break;
            case 40: x.set(n[0], n[1], n[2]); break;
            case 41: x.get(n[0], n[1]); break;
            case 42: x.image(); break;
            case 43: x.undo(); break;
            default:
                for (int i = random.nextInt(6); i >= 0; i--) {
                    x.feed(TAPE.charAt(random.nextInt(TAPE.length())));
                }
        }
    }

    /** The dearest rules over and over, each with a large machine, and the dearest questions in between. */
    private static void large() {
        com.sun.management.ThreadMXBean bean =
                (com.sun.management.ThreadMXBean) ManagementFactory.getThreadMXBean();
        long before = bean.getThreadAllocatedBytes(Thread.currentThread().getId());
        RosterLanes x = new RosterLanes();
        int calls = 1;
        x.begin(6, 14);
        String[] patterns = {".*d.....", ".*(.|d).d.d.d.d", "o?(d|.......)*d"};
        for (int i = 0; calls < 480; i++) {
            String text = patterns[i % 3];
            for (int k = 0; k < text.length(); k++) {
                x.feed(text.charAt(k));
            }
            x.rule(i % 3);
            x.best(5, -1);
            x.improve(20);
            x.repair(40);
            x.count(0, 0);
            x.drop();
            calls += text.length() + 6;
        }
        long made = bean.getThreadAllocatedBytes(Thread.currentThread().getId()) - before;
        System.out.println("bytes made by " + calls + " calls: " + made);
        if (made > 1_000_000) {
            wrong++;
        }
    }
}

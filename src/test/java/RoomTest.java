import java.lang.management.ManagementFactory;
import java.util.Random;

/** No call throws, whatever it is asked in whatever state; and calls make nothing, so that a run stays in its room. */
public final class RoomTest {
    private static final Due due = new Due();
    private static final int[] ODD = {Integer.MIN_VALUE, Integer.MIN_VALUE + 1, -1000, -21, -2, -1, 0, 1, 2, 3, 4, 7, 11, 12,
        15, 16, 20, 30, 40, 59, 60, 143, 144, 206, 400, 2000, 9999, 1 << 30, Integer.MAX_VALUE - 1, Integer.MAX_VALUE};
    private static final String BITS = "slips sees pays when or and not haste x watch minute stone snow sign bare to walker"
        + " ahead left right back wait from blind ; ; ; + - * / ( ) < = > 0 1 2 11 12 9999 12345";
    private static Random random;
    private static long sum;

    public static void main(String[] args) {
        for (int seed = 0; seed < 300; seed++) {
            random = new Random(seed);
            wild(seed);
        }
        due.is("answers came", sum != 0, true);
        made();
        due.end();
    }

    private static int v() {
        return random.nextInt(3) == 0 ? ODD[random.nextInt(ODD.length)] : random.nextInt(16) - 2;
    }

    private static void wild(int seed) {
        WindingSquare x = new WindingSquare();
        String[] bits = BITS.split(" ");
        try {
            for (int i = 0; i < 512; i++) {
                if (random.nextInt(12) == 0) {
                    StringBuilder b = new StringBuilder();
                    while (b.length() < 300 && random.nextInt(20) > 0) {
                        b.append(bits[random.nextInt(bits.length)]).append(random.nextInt(4) > 0 ? " " : "");
                    }
                    x.end(0);
                    Due.tell(x, random.nextInt(5), b.toString());
                }
                sum += call(x, random.nextInt(41));
            }
        } catch (RuntimeException e) {
            e.printStackTrace(System.out);
            due.is("seed " + seed + " threw", 1, 0);
        }
    }

    private static int one(boolean b) {
        return b ? 1 : 0;
    }

    private static int call(WindingSquare x, int k) {
        switch (k) {
            case 0: return x.state(v());
            case 1: return x.walker(v());
            case 2: case 35: case 36: return one(x.comes(v(), v(), v()));
            case 3: return one(x.turn(v(), v()));
            case 4: return one(x.lay(v(), v(), v()));
            case 5: return x.minutes(v());
            case 6: return x.feed(v(), v(), v(), v(), v());
            case 7: return one(x.end(v()));
            case 8: return x.text(v());
            case 9: return x.fault(v());
            case 10: return x.of(v(), v());
            case 11: return x.cell(v(), v(), v());
            case 12: return x.book(v(), v());
            case 13: return x.goes(v(), v());
            case 14: return x.over(v());
            case 15: return x.far(v(), v(), v(), v());
            case 16: return x.with(v(), v(), v(), v());
            case 17: return x.seen(v(), v());
            case 18: return x.known(v(), v());
            case 19: return x.one(v());
            case 20: return x.move(v());
            case 21: return x.round(v());
            case 22: return x.folded(v(), v(), v());
            case 23: return x.duel(v(), v(), v());
            case 24: return x.ant(v(), v());
            case 25: return x.hooks(v(), v());
            case 26: return x.apart(v());
            case 27: return x.gap(v(), v());
            case 28: return x.hedge();
            case 29: return x.meets(v(), v());
            case 30: return x.pigeons(v());
            case 31: return x.game(v(), v(), v());
            case 32: return one(x.undo());
            case 33: return one(x.image(random.nextBoolean()));
            case 37: return x.minutes(1 + random.nextInt(60));
            case 38: return x.goes(1 + random.nextInt(60), random.nextInt(4));
            case 39: return x.with(random.nextInt(144), random.nextInt(4), random.nextInt(144), 206);
            case 40: return x.far(random.nextInt(144), random.nextInt(4), random.nextInt(144), random.nextInt(8) - 1);
            default: return x.look(v());
        }
    }

    private static void made() {
        com.sun.management.ThreadMXBean bean = (com.sun.management.ThreadMXBean) ManagementFactory.getThreadMXBean();
        long thread = Thread.currentThread().getId();
        long start = bean.getThreadAllocatedBytes(thread);
        long idle = bean.getThreadAllocatedBytes(thread) - start;
        long before = bean.getThreadAllocatedBytes(thread);
        WindingSquare x = new WindingSquare();
        long made = bean.getThreadAllocatedBytes(thread) - before - idle;
        due.is("a new object has below 60,000 elements, not " + made / 4, made < 4 * 60000, true);
        x.walker(1);
        x.walker(2);
        x.feed(1936484720, 1931490614, 874542952, 1701716078, 1869881384);
        random = new Random(3);
        for (int round = 0; round < 2; round++) {
            before = bean.getThreadAllocatedBytes(thread);
            for (int i = 0; i < 5000; i++) {
                sum += call(x, i % 41);
            }
            made = bean.getThreadAllocatedBytes(thread) - before - idle;
        }
        due.is("5000 calls make nothing, not " + made, made < 4096, true);
    }
}

import com.sun.management.ThreadMXBean;
import java.lang.management.ManagementFactory;
import java.util.Random;

/** All room is made with the object: no later call makes an object or an array, and the object itself is small. */
public final class RoomTest {
    private static final long MOST_OF_AN_OBJECT = 40_000;

    private static long sum = 0;

    private RoomTest() {
    }

    public static void main(String[] args) {
        ThreadMXBean bean = (ThreadMXBean) ManagementFactory.getThreadMXBean();
        byte[] text = Words.bytes("let x='ab';let y=3(x)'c';2(y rev(x y)) fib 6 morse 3");
        long self = Thread.currentThread().getId();
        // the measuring itself is warmed up first
        measure(bean, self, text);
        long[] bytes = measure(bean, self, text);
        Check.holds("an object takes " + bytes[0] + " bytes", bytes[0] < MOST_OF_AN_OBJECT);
        Check.holds("all calls take " + bytes[1] + " bytes", bytes[1] == 0);
        Check.holds("the calls answered", sum != 0);
        Check.close("RoomTest");
    }

    private static long[] measure(ThreadMXBean bean, long self, byte[] text) {
        Random random = new Random(1);
        bean.getThreadAllocatedBytes(self);
        long start = bean.getThreadAllocatedBytes(self);
        WordRuns x = new WordRuns();
        long made = bean.getThreadAllocatedBytes(self);
        Words.feedText(x, text);
        sum += x.tell();
        long before = bean.getThreadAllocatedBytes(self);
        for (int round = 0; round < 8; round++) {
            ask(x, random);
            act(x, random);
        }
        long after = bean.getThreadAllocatedBytes(self);
        return new long[] {made - start, after - before};
    }

    private static void act(WordRuns x, Random random) {
        int n = x.count(0);
        sum += x.put(random.nextInt(n), 3) + x.insert(random.nextInt(n), 4) + x.drop(random.nextInt(n));
        sum += x.turn(0, random.nextInt(n)) + x.again(0, 2) + x.rotate(random.nextInt(n)) + x.only(0, n - 1);
        sum += x.sub(1, 0, 2) + x.undo() + x.keep(1) + x.back(1);
        sum += x.feed(0x277a7a27, 0, 0, 0, 0) + x.end(3) + x.tell();
    }

    private static void ask(WordRuns x, Random random) {
        int j = x.count(0);
        int i = random.nextInt(j);
        sum += x.border(i, j, 0) + x.period(i, j, 0) + x.root(i, j, 2) + x.lyndon(true, 0) + x.longest(true, i);
        sum += x.run(0, 3) + x.runs(i) + x.squares(2) + x.power(2000) + x.cover(i, j, 0) + x.seed(0, 1);
        sum += x.cloak(2, 0) + x.mirror(i, true) + x.mirrors(1) + x.mirrors(2) + x.mirrors(4) + x.factors(-1);
        sum += x.bare(0) + x.twice(true, 0) + x.phrase(1, 2) + x.ends(1, 1) + x.abel(0) + x.often(-1);
        sum += x.lies(i, j, 0) + x.compare(0, i, i, j) + x.closed(0) + x.absent(0) + x.special(1);
        sum += x.gapped(1, 0) + x.change(i, 1) + x.alike(0, i) + x.count(5) + x.letter(0);
    }
}

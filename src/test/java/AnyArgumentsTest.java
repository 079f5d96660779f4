import java.lang.management.ManagementFactory;
import java.util.Random;

/** Whatever the arguments, no call throws, none is without end, and a run of calls stays in its room. */
public final class AnyArgumentsTest {
    private static final int[] EDGES = {
        Integer.MIN_VALUE, Integer.MIN_VALUE + 1, -65536, -101, -100, -15, -10, -5, -4, -3, -2, -1, 0, 1, 2, 3, 4, 5, 6, 7, 8, 9, 10,
        11, 12, 13, 17, 18, 19, 20, 21, 29, 30, 39, 40, 41, 59, 60, 70, 77, 80, 98, 99, 100, 101, 159, 160, 199, 255, 256, 999, 1099,
        5099, 9899, 9999, 10000, 32767, 65536, Integer.MAX_VALUE - 2, Integer.MAX_VALUE - 1, Integer.MAX_VALUE,
    };
    private static final String SIGNS = "takes costs minds day long not and or 12 345 ( ) ; + - * < = \n";
    // An object takes 16 bytes at least, an element 1: below this there are fewer than 600,000 and 7.3 million.
    private static final long ROOM_OF_A_RUN = 7_000_000;
    private static int place = 0;

    public static void main(String[] args) {
        long sum = 0;
        long most = 0;
        int runs = 400;
        Random r = new Random(11);
        for (int i = 0; i < runs; i++) {
            long before = allocated();
            sum += calls(r, new ThreeAddresses());
            // The first run is left out: the machine itself makes much while it loads and compiles.
            most = i == 0 ? 0 : Math.max(most, allocated() - before);
        }
        System.out.println("any arguments: " + (runs * 512) + " calls, sum " + sum + ", bytes made by a run at most " + most);
        if (most > ROOM_OF_A_RUN) {
            System.out.println("a run of calls makes too much");
            System.exit(1);
        }
    }

    private static long allocated() {
        Object bean = ManagementFactory.getThreadMXBean();
        if (bean instanceof com.sun.management.ThreadMXBean) {
            return ((com.sun.management.ThreadMXBean) bean).getThreadAllocatedBytes(Thread.currentThread().getId());
        }
        return 0;
    }

    private static long calls(Random r, ThreeAddresses x) {
        long sum = 0;
        boolean mild = r.nextInt(4) != 0;
        for (int i = 0; i < 512; i++) {
            sum += mild && i < 60 ? begin(r, x) : any(r, x);
        }
        return sum;
    }

    /** Calls that are mostly good, so that the wild ones find a full object. */
    private static long begin(Random r, ThreeAddresses x) {
        switch (r.nextInt(4)) {
            case 0: return x.move(r.nextInt(100), r.nextInt(8));
            case 1: return x.order(r.nextInt(60), r.nextInt(80), 100 * r.nextInt(50) + 50 + r.nextInt(50));
            case 2: return x.sheet(r.nextInt(4), r.nextInt(3), r.nextInt(41));
            default: return x.film(r.nextInt(4), r.nextInt(8), r.nextInt(100));
        }
    }

    private static int v(Random r) {
        return r.nextInt(3) == 0 ? EDGES[r.nextInt(EDGES.length)] : r.nextInt(10);
    }

    private static int nextByte(Random r) {
        if (r.nextInt(20) == 0) {
            return v(r);
        }
        place = (place + 1) % SIGNS.length();
        return SIGNS.charAt(place);
    }

    private static long any(Random r, ThreeAddresses x) {
        int c = r.nextInt(27);
        switch (c) {
            case 0: return x.move(v(r), v(r));
            case 1: return x.order(v(r), v(r), v(r));
            case 2: return x.set(v(r), v(r), v(r));
            case 3: return x.told(v(r), v(r));
            case 4: return x.lives(v(r));
            case 5: return x.sends(v(r), v(r), v(r));
            case 6: return x.feed(nextByte(r));
            case 7: return x.text();
            case 8: return x.force(v(r));
            case 9: return x.letter(v(r), v(r), v(r));
            case 10: return x.reaches(v(r), v(r));
            case 11: return x.needless(v(r), v(r));
            case 12: return x.oneMore(v(r), v(r), v(r));
            case 13: return x.thicker(v(r));
            case 14: return x.covers(v(r), v(r));
            case 15: return x.film(v(r), v(r), v(r));
            case 16: return x.drawn(v(r), v(r));
            case 17: return x.chance(v(r), v(r), v(r), v(r), v(r));
            case 18: return x.image();
            case 19: return x.back();
            case 20: return x.count(v(r));
            case 21: return x.sheet(v(r), v(r), v(r));
            case 22: return x.cell(v(r), v(r), v(r));
            case 23: return x.copy(v(r), v(r), v(r), v(r), v(r));
            case 24: return x.orders(v(r), v(r), v(r), v(r));
            case 25: return x.taken(v(r), v(r));
            default: return x.feed(r.nextInt(256));
        }
    }
}

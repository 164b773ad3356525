import java.lang.management.ManagementFactory;

/** A run of the dearest calls makes next to no objects, so that all calls of a run fit into one room. */
public final class RoomTests {
    private static final String DEAR = "(a>0&a<99|!w=9)*((a*3-w*2-i/3+f%2-m+n)/2)?a*7/8-w/(f+1)+(n>1)*2-(m=3)+(a%5<2)*(i>0);a-w-i/3";

    private final Due due = new Due();

    public static void main(String[] args) {
        RoomTests t = new RoomTests();
        t.run();
        t.due.end("RoomTests");
    }

    private ThoughtsDrip full() {
        ThoughtsDrip x = new ThoughtsDrip();
        for (int p = 0; p < 6; p++) {
            x.person(7 - p, 4095);
            for (int mark = 0; mark < 4; mark++) {
                x.mend(10 * p + mark, 2, 9 - mark);
            }
        }
        for (int k = 0; k < DEAR.length(); k++) {
            x.feed(DEAR.charAt(k));
        }
        due.is("the law is taken", x.law(), 1);
        x.row(0, 0, 4);
        return x;
    }

    private static int dear(ThoughtsDrip x, int k) {
        switch (k % 16) {
            case 0: return x.change(50, k / 16 % 2, 3);
            case 1: return x.dry(5, 1);
            case 2: return x.drawn(k, 3024, 0);
            case 3: return x.drawn(k, 3024, 1);
            case 4: return x.who(0, 3, 0);
            case 5: return x.thought(0, 3, 52, 0);
            case 6: return x.swap(5);
            case 7: return x.rent(5, 999);
            case 8: return (int) x.mean(50, 3, 0);
            case 9: return x.most(48, 5, 1);
            case 10: return x.from(5, 0);
            case 11: return x.byTurns(50, 6, 0);
            case 12: return x.hour();
            case 13: return x.image() + x.back();
            case 14: return x.mend(0, 5, k / 16 % 10) + x.undo() + x.redo();
            default: return x.feed('a') + x.law();
        }
    }

    private void run() {
        ThoughtsDrip warm = full();
        for (int k = 0; k < 16; k++) {
            dear(warm, k);
        }
        com.sun.management.ThreadMXBean threads = (com.sun.management.ThreadMXBean) ManagementFactory.getThreadMXBean();
        long id = Thread.currentThread().getId();
        long start = threads.getThreadAllocatedBytes(id);
        ThoughtsDrip x = full();
        long made = threads.getThreadAllocatedBytes(id);
        int sum = 0;
        for (int k = 0; k < 300; k++) {
            sum += dear(x, k);
        }
        long end = threads.getThreadAllocatedBytes(id);
        System.out.println("an object: " + (made - start) + " bytes; 300 dear calls: " + (end - made) + " bytes");
        due.holds("the object is small", made - start < 100000);
        due.holds("calls make nothing", end - made < 100000);
        due.holds("they answer", sum != 0);
    }
}

import com.sun.management.ThreadMXBean;
import java.lang.management.ManagementFactory;

/** What a run makes is counted: a new object is small, and its calls make next to nothing. */
public final class RoomTest {
    private static final int BYTES_OF_AN_OBJECT = 40000;
    private static final int BYTES_OF_ALL_CALLS = 60000;

    public static void main(String[] args) {
        dearCalls(told());
        long before = allocated();
        AfterTheLast made = new AfterTheLast();
        long behind = allocated();
        Check.is("bytes of a new object: " + (behind - before), behind - before <= BYTES_OF_AN_OBJECT, true);
        Check.is("it is there", made.count(0), 0);
        AfterTheLast x = told();
        before = allocated();
        int calls = dearCalls(x);
        behind = allocated();
        Check.is("bytes of " + calls + " calls: " + (behind - before), behind - before <= BYTES_OF_ALL_CALLS, true);
        Check.is("calls", calls >= 500, true);
        Check.done();
    }

    private static long allocated() {
        return ((ThreadMXBean) ManagementFactory.getThreadMXBean()).getThreadAllocatedBytes(Thread.currentThread().getId());
    }

    private static AfterTheLast told() {
        StringBuilder b = new StringBuilder("house last 12 9");
        for (int i = 0; i < 18; i++) {
            b.append(";stay ").append(i % 12).append(" 0 ").append(i).append(' ').append(i + 9 + i * 7 % 5).append(' ').append(i * 5 % 9);
        }
        AfterTheLast x = Check.with(b.toString());
        for (int i = 0; i < 6; i++) {
            Check.rule(x, "come [now+person*house-inside/2 < 70 or worth > 3] and not room = 0;hold late < " + i);
            x.wishes(i, 0, i, i + 14, 3);
            x.went(i);
            x.guest(i * 5, i * 5 + 9);
        }
        return x;
    }

    private static int dearCalls(AfterTheLast x) {
        int calls = 0;
        for (int i = 0; i < 28; i++) {
            x.evenings(i % 6, 2, 0);
            x.ahead(i % 6, 90, 1);
            x.bestRule();
            x.most(0, 1);
            x.houses(0xfff << i % 6, i % 3, 0);
            x.houses(0xfff << i % 6, i % 3, 1);
            x.fits(0x3ffff, 0, 1);
            x.plan(6);
            x.plan(0);
            x.rings(2);
            x.orders(-1);
            x.orders(5);
            x.kept(3, 30, 1);
            x.knocks(8, 3, 50, 95, 0, 0);
            x.image(i % 4);
            x.tick(i % 6, 2);
            x.back(i % 4);
            x.feed(1, 2, 3, 4, 5);
            calls += 18;
        }
        return calls;
    }
}

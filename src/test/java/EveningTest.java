import java.math.BigInteger;

/** Promises 30 (seed) and 31 (evenings). */
public final class EveningTest {
    public static void main(String[] args) {
        seeding();
        oneStay();
        severalEvenings();
        fromNowOn();
        at95();
        wrong();
        Check.done();
    }

    private static int next(int x) {
        return BigInteger.valueOf(x).multiply(BigInteger.valueOf(1103515245L)).add(BigInteger.valueOf(12345))
            .mod(BigInteger.valueOf(2147483648L)).intValue();
    }

    private static void seeding() {
        AfterTheLast x = new AfterTheLast();
        Check.is("0 at first", x.seed(7), 0);
        Check.is("7 before", x.seed(Integer.MAX_VALUE), 7);
        Check.is("-1", x.seed(-1), -1);
        Check.is("the least", x.seed(Integer.MIN_VALUE), -1);
        Check.is("nothing happened", x.count(12), Integer.MAX_VALUE);
        Check.is("the greatest before", x.seed(0), Integer.MAX_VALUE);
        Check.is("0", x.count(12), 0);
    }

    /** A stay till 4; who is held till 20 is late from its till, put off by a draw, to 19. */
    private static void oneStay() {
        boolean[] seen = new boolean[4];
        for (int seed = 0; seed < 2000000000; seed += 123456789) {
            AfterTheLast x = Check.with("house last 1 0;stay 0 0 0 4 0");
            Check.rule(x, "hold now < 20");
            x.seed(seed);
            int off = next(seed) / 65536 % 4;
            seen[off] = true;
            Check.is("late by the draw of " + seed, x.evenings(0, 1, 0), 16 - off);
            Check.is("served", x.evenings(0, 1, 1), 1);
            Check.is("nobody inside", x.evenings(0, 1, 2), 1);
            Check.is("x is as it was", x.count(12), seed);
            Check.is("the till is as it was", x.stay(0, 3), 4);
        }
        for (int off = 0; off < 4; off++) {
            Check.is("a draw of " + off, seen[off], true);
        }
    }

    private static void severalEvenings() {
        AfterTheLast x = Check.with("house free 2 0;stay 0 0 0 4 0;stay 1 0 0 6 0;stay 2 0 50 60 0");
        Check.rule(x, "hold now < 20;come person < 2 or room < 2");
        Check.rule(x, "hold person = 1");
        x.seed(99);
        int draw = 99;
        int late = 0;
        for (int m = 1; m <= 20; m++) {
            // the three stays are drawn for by their numbers, and x goes on
            draw = next(draw);
            late += 16 - draw / 65536 % 4;
            draw = next(draw);
            late += 14 - draw / 65536 % 4;
            draw = next(draw);
            Check.is("late of " + m, x.evenings(0, m, 0), late);
            Check.is("served of " + m, x.evenings(0, m, 1), 2 * m);
            Check.is("nobody inside of " + m, x.evenings(0, m, 2), m);
            Check.is("served of " + m, x.evenings(1, m, 1), 3 * m);
            Check.is("somebody inside of " + m, x.evenings(1, m, 2), 0);
        }
        Check.is("x is as it was", x.count(12), 99);
    }

    private static void fromNowOn() {
        AfterTheLast x = Check.with("house free 2 0;stay 0 0 0 4 0;stay 1 0 70 90 0");
        Check.rule(x, "hold now < 20");
        x.seed(5);
        x.come(9, 0);
        x.tick(0, 10);
        Check.is("late so far", x.count(4), 6);
        String was = Check.state(x);
        Check.is("late of these quarters alone", x.evenings(0, 1, 0), 10);
        Check.is("late of two evenings", x.evenings(0, 2, 0), 20);
        Check.is("served, those before too", x.evenings(0, 2, 1), 4);
        Check.is("one is there by hand", x.evenings(0, 2, 2), 0);
        Check.same("evenings", x, was);
        x.go(9, false);
        Check.is("nobody", x.evenings(0, 2, 2), 2);
        x.tick(0, 86);
        Check.is("behind all quarters: late", x.evenings(0, 3, 0), 0);
        Check.is("behind all quarters: served", x.evenings(0, 3, 1), 6);
        Check.is("behind all quarters: nobody", x.evenings(0, 3, 2), 3);
    }

    private static void at95() {
        // till 95 is not put off: he goes at 95 whatever is drawn
        AfterTheLast x = Check.with("house last 1 0;stay 0 0 0 95 0;stay 1 0 94 95 0");
        Check.rule(x, "come 1=1");
        for (int seed = 0; seed < 10; seed++) {
            x.seed(seed * 100000007);
            Check.is("nobody inside", x.evenings(0, 20, 2), 20);
            Check.is("nobody late", x.evenings(0, 20, 0), 0);
        }
    }

    private static void wrong() {
        AfterTheLast x = Check.with("house last 1 0;stay 0 0 0 5 0");
        Check.is("no rules", x.evenings(0, 1, 0), -1);
        Check.rule(x, "come 1=1");
        Check.is("rule 1", x.evenings(1, 1, 0), -1);
        Check.is("rule -1", x.evenings(-1, 1, 0), -1);
        Check.is("m 0", x.evenings(0, 0, 0), -1);
        Check.is("m 21", x.evenings(0, 21, 0), -1);
        Check.is("what -1", x.evenings(0, 1, -1), -1);
        Check.is("what 3", x.evenings(0, 1, 3), -1);
        Check.is("m 20", x.evenings(0, 20, 1), 20);
    }
}

import java.math.BigInteger;

/** The boundary cases of promises 30 (seed) and 31 (evenings). */
public final class EveningEdgeTest {
    public static void main(String[] args) {
        seeds();
        refusedSeeds();
        drawsGoRound();
        laterByADraw();
        at95AtMost();
        eachStayByItsNumber();
        oneThatWasMissed();
        xGoesOn();
        fromNowTo96();
        withoutStays();
        refusedEvenings();
        nothingElseChanges();
        Check.done();
    }

    private static void seeds() {
        Doc.says("x becomes a number: what it was; NONE, and nothing happens, below 0.");
        AfterTheLast x = new AfterTheLast();
        int was = 0;
        for (int n : new int[] {0, 1, Integer.MAX_VALUE, Integer.MAX_VALUE - 1, 65536, 0}) {
            Check.is("what it was", x.seed(n), was);
            Check.is("x", x.count(12), n);
            was = n;
        }
    }

    private static void refusedSeeds() {
        for (int n : new int[] {-1, -2, Integer.MIN_VALUE, -65536}) {
            Twins.leave("seed " + n, Twins::some, x -> x.seed(n), -1);
        }
    }

    private static int next(int x) {
        return BigInteger.valueOf(x).multiply(BigInteger.valueOf(1103515245)).add(BigInteger.valueOf(12345))
            .mod(BigInteger.valueOf(2147483648L)).intValue();
    }

    /** One stay till 1, held till 50: late from its till, put off by a draw, to 49. */
    private static AfterTheLast heldTill50(int seed) {
        AfterTheLast x = Check.with("house free 1 0;stay 0 0 0 1 0");
        Check.rule(x, "hold now < 50");
        x.seed(seed);
        return x;
    }

    private static void drawsGoRound() {
        Doc.says("DRAWS: x (0 to 2147483647; 0 at first) becomes x * 1103515245 + 12345, of 2147483648 the rest; a DRAW is x / 65536.");
        // of 0: 12345, a draw of 0; of 1: 1103527590, a draw of 16838, which is 2 mod 4
        Check.is("0", heldTill50(0).evenings(0, 1, 0), 49);
        Check.is("1", heldTill50(1).evenings(0, 1, 0), 47);
        int[] seeds = {Integer.MAX_VALUE, Integer.MAX_VALUE - 1, 1 << 30, (1 << 30) + 1, 2, 3, 65535, 65536, 1103515245, 2147471303, 12345};
        boolean[] seen = new boolean[4];
        for (int seed : seeds) {
            int off = next(seed) / 65536 % 4;
            seen[off] = true;
            Check.is("of " + seed, heldTill50(seed).evenings(0, 1, 0), 49 - off);
        }
        for (int off = 0; off < 4; off++) {
            Check.is("a draw of " + off + " mod 4", seen[off], true);
        }
        Check.is("0 at first", new AfterTheLast().count(12), 0);
    }

    private static void laterByADraw() {
        Doc.says("EVENINGS: m times (1 to 20) from now to behind QUARTER 95 by a RULE, each with till of each STAY (by their numbers) later by a DRAW mod 4 (95 at most)");
        AfterTheLast x = heldTill50(3);
        int draw = 3;
        int late = 0;
        for (int m = 1; m <= 20; m++) {
            draw = next(draw);
            late += 49 - draw / 65536 % 4;
            Check.is("late of " + m, x.evenings(0, m, 0), late);
            Check.is("served of " + m, x.evenings(0, m, 1), m);
            Check.is("nobody inside of " + m, x.evenings(0, m, 2), m);
        }
        Check.is("0 times", x.evenings(0, 0, 0), -1);
        Check.is("21 times", x.evenings(0, 21, 0), -1);
    }

    private static void at95AtMost() {
        for (int till = 91; till <= 95; till++) {
            AfterTheLast x = Check.with("house free 1 0;stay 0 0 0 " + till + " 0");
            Check.rule(x, "hold 1=1");
            for (int seed = 0; seed < 40; seed++) {
                x.seed(seed * 53687091);
                int off = next(seed * 53687091) / 65536 % 4;
                Check.is("late from " + till + " and " + off, x.evenings(0, 1, 0), 96 - Math.min(95, till + off));
            }
        }
    }

    private static void eachStayByItsNumber() {
        // 18 stays of unlike people and times: each is drawn for, those that are over and those not begun too
        StringBuilder b = new StringBuilder("house free 12 0");
        for (int s = 0; s < 18; s++) {
            b.append(";stay ").append(s % 12).append(" 0 ").append(s < 12 ? 0 : 40).append(' ').append(s < 12 ? 5 : 45).append(" 0");
        }
        AfterTheLast x = Check.with(b.toString());
        Check.rule(x, "hold now < 20 or now > 30");
        x.seed(77);
        x.tick(0, 30);
        int due = 0;
        int draw = 77;
        for (int s = 0; s < 18; s++) {
            draw = next(draw);
            due += s < 12 ? 0 : 96 - 45 - draw / 65536 % 4;
        }
        Check.is("late", x.evenings(0, 1, 0), due);
        Check.is("served", x.evenings(0, 1, 1), 18);
        Check.is("somebody is inside", x.evenings(0, 20, 2), 0);
    }

    /** A till that is put off beyond NOW is above NOW: so the stay can begin, though it was missed. */
    private static void oneThatWasMissed() {
        AfterTheLast x = Check.with("house free 1 0;stay 0 0 0 2 0");
        Check.rule(x, "come 1=2");
        Check.rule(x, "come 1=1");
        x.tick(0, 3);
        Check.is("missed", x.count(6), 1);
        for (int seed = 0; seed < 40; seed++) {
            x.seed(seed * 53687091);
            int off = next(seed * 53687091) / 65536 % 4;
            Check.is("put off by " + off, x.evenings(1, 1, 1), off >= 2 ? 1 : 0);
        }
        Check.is("missed as before", x.count(6), 1);
    }

    private static void xGoesOn() {
        Doc.says("LATE (of these QUARTERS alone) together, SERVED together, how often nobody is inside at the end (x goes on; nothing else changes, and x is as it was).");
        AfterTheLast x = heldTill50(9);
        int second = next(9);
        int one = x.evenings(0, 1, 0);
        int two = x.evenings(0, 2, 0);
        Check.is("x is as it was", x.count(12), 9);
        x.seed(second);
        Check.is("the second one goes on from the first one's x", x.evenings(0, 1, 0), two - one);
        x.seed(9);
        Check.is("and the first one is as it was", x.evenings(0, 1, 0), one);
        // each evening begins with the tills as they are, not as the evening before put them off
        AfterTheLast y = Check.with("house free 1 0;stay 0 0 0 1 0");
        Check.rule(y, "come now >= 4");
        Check.is("till is never above 4", y.evenings(0, 20, 1), 0);
    }

    private static void fromNowTo96() {
        AfterTheLast x = heldTill50(1);
        x.tick(0, 49);
        Check.is("late so far", x.count(4), 48);
        Check.is("of these quarters alone", x.evenings(0, 1, 0), 1);
        x.tick(0, 1);
        Check.is("late no more", x.evenings(0, 20, 0), 0);
        Check.is("served before", x.evenings(0, 20, 1), 20);
        x.tick(0, 46);
        Check.is("at 96: late", x.evenings(0, 20, 0), 0);
        Check.is("at 96: served", x.evenings(0, 20, 1), 20);
        Check.is("at 96: nobody", x.evenings(0, 20, 2), 20);
        x.come(3, 0);
        Check.is("at 96: somebody", x.evenings(0, 20, 2), 0);
        AfterTheLast y = Check.with("house free 1 0;stay 0 0 0 95 0");
        Check.rule(y, "hold 1=1");
        y.tick(0, 95);
        Check.is("quarter 95 too", y.evenings(0, 1, 0), 1);
    }

    private static void withoutStays() {
        AfterTheLast x = new AfterTheLast();
        Check.rule(x, "come 1=1");
        Check.is("without a street: late", x.evenings(0, 20, 0), 0);
        Check.is("without a street: served", x.evenings(0, 20, 1), 0);
        Check.is("without a street: nobody", x.evenings(0, 20, 2), 20);
        Check.street(x, "house free 2 0");
        Check.is("without stays", x.evenings(0, 7, 2), 7);
        x.come(0, 0);
        Check.is("one by hand stays", x.evenings(0, 7, 2), 0);
    }

    private static void refusedEvenings() {
        Doc.says("EVENINGS what 0: LATE, 1: SERVED, 2: how often nobody is inside; NONE without these.");
        int[][] none = {{2, 1, 0}, {-1, 1, 0}, {6, 1, 0}, {0, 0, 0}, {0, 21, 0}, {0, -1, 0}, {0, 1, -1}, {0, 1, 3}, {Integer.MAX_VALUE, 1, 0},
            {Integer.MIN_VALUE, 1, 0}, {0, Integer.MAX_VALUE, 0}, {0, Integer.MIN_VALUE, 0}, {0, 1, Integer.MAX_VALUE},
            {0, 1, Integer.MIN_VALUE}};
        for (int[] ask : none) {
            Twins.leave("evenings " + ask[0] + ", " + ask[1] + ", " + ask[2], Twins::some, x -> x.evenings(ask[0], ask[1], ask[2]), -1);
        }
        Check.is("without rules", new AfterTheLast().evenings(0, 1, 0), -1);
    }

    private static void nothingElseChanges() {
        for (int rule = 0; rule < 2; rule++) {
            for (int what = 0; what < 3; what++) {
                int r = rule;
                int w = what;
                AfterTheLast x = new AfterTheLast();
                Twins.some(x);
                Twins.leave("evenings", Twins::some, y -> y.evenings(r, 20, w), x.evenings(rule, 20, what));
            }
        }
    }
}

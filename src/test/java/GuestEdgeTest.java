/** The boundary cases of promises 27 (guest), 28 (kept) and 29 (knocks). */
public final class GuestEdgeTest {
    public static void main(String[] args) {
        twelveGuests();
        refusedGuests();
        withoutGuests();
        comeBelowWhenHeCouldGo();
        orLonger();
        ofSeveralTheLeast();
        allTwelveAreNeeded();
        refusedKept();
        noKnockNoValue();
        downwards();
        goesNotBehindE();
        sixteenths();
        betterThanNot();
        refusedKnocks();
        oneKnockBehindAnother();
        Check.done();
    }

    private static void twelveGuests() {
        Doc.says("GUESTS 0 to 11: come, go (QUARTERS, go above come).");
        Doc.says("A GUEST (come NONE: none then): how many; -2, and nothing happens, for others, or if there are 12.");
        AfterTheLast x = new AfterTheLast();
        int[][] guests = {{0, 1}, {0, 95}, {94, 95}, {5, 6}};
        for (int i = 0; i < 12; i++) {
            Check.is("guest " + i, x.guest(guests[i % 4][0], guests[i % 4][1]), i + 1);
            Check.is("how many", x.count(11), i + 1);
        }
        Check.is("a 13th", x.guest(0, 1), -2);
        Check.is("how many", x.count(11), 12);
        Check.is("none then, whatever go is", x.guest(-1, Integer.MIN_VALUE), 0);
        Check.is("none of none", x.guest(-1, 5), 0);
        Check.is("how many", x.count(11), 0);
        Check.is("one again", x.guest(94, 95), 1);
    }

    private static void refusedGuests() {
        int[][] none = {{5, 5}, {5, 4}, {0, 0}, {95, 95}, {95, 96}, {96, 97}, {-2, 5}, {0, -1}, {5, 96}, {Integer.MAX_VALUE, 5},
            {Integer.MIN_VALUE, 5}, {5, Integer.MAX_VALUE}, {5, Integer.MIN_VALUE}};
        for (int[] ask : none) {
            Twins.leave("guest " + ask[0] + ", " + ask[1], Twins::some, x -> x.guest(ask[0], ask[1]), -2);
        }
        Twins.leave("a 13th", x -> {
            Twins.some(x);
            for (int i = 2; i < 12; i++) {
                x.guest(i, 40 + i);
            }
        }, x -> x.guest(3, 9), -2);
    }

    private static AfterTheLast guests(int[]... guests) {
        AfterTheLast x = new AfterTheLast();
        for (int[] g : guests) {
            x.guest(g[0], g[1]);
        }
        return x;
    }

    private static void kept(AfterTheLast x, int goes, int till, int many, int set) {
        Check.is("kept " + goes + ", " + till + ": how many", x.kept(goes, till, 0), many);
        Check.is("kept " + goes + ", " + till + ": the set", x.kept(goes, till, 1), set);
    }

    private static void withoutGuests() {
        Doc.says("KEPT: one would go at a QUARTER from a HOUSE (law last) in which he is alone;");
        for (int q = 0; q <= 95; q++) {
            kept(new AfterTheLast(), q, q, 0, 0);
            kept(new AfterTheLast(), 95, q, 0, 0);
            kept(new AfterTheLast(), 0, q, q == 0 ? 0 : -2, q == 0 ? 0 : -2);
        }
    }

    private static void comeBelowWhenHeCouldGo() {
        Doc.says("each GUEST who is asked comes at his come, if he is still there then (come below when he could go), and then he can't go ahead of the GUEST's go");
        for (int goes = 0; goes <= 12; goes++) {
            boolean finds = goes > 5;
            kept(guests(new int[] {5, 20}), goes, 20, finds ? 1 : -2, finds ? 1 : -2);
        }
        kept(guests(new int[] {0, 95}), 0, 95, -2, -2);
        kept(guests(new int[] {0, 95}), 1, 95, 1, 1);
        kept(guests(new int[] {94, 95}), 94, 95, -2, -2);
        kept(guests(new int[] {93, 95}), 94, 95, 1, 1);
        // the one keeps him for the other one, who comes the quarter ahead of when he could go, or just then
        kept(guests(new int[] {9, 20}, new int[] {4, 10}), 5, 20, 2, 3);
        kept(guests(new int[] {10, 20}, new int[] {4, 10}), 5, 20, -2, -2);
        // who goes ahead of when he could go anyway keeps nobody
        kept(guests(new int[] {0, 4}), 5, 6, -2, -2);
        kept(guests(new int[] {0, 5}), 5, 6, -2, -2);
        kept(guests(new int[] {0, 6}), 5, 6, 1, 1);
    }

    private static void orLonger() {
        Doc.says("the fewest GUESTS by whom he is there till another QUARTER, or longer; of several sets the least.");
        AfterTheLast x = guests(new int[] {3, 10});
        for (int till = 0; till <= 95; till++) {
            int many = till <= 5 ? 0 : till <= 10 ? 1 : -2;
            kept(x, 5, till, many, many);
        }
    }

    private static void ofSeveralTheLeast() {
        kept(guests(new int[] {3, 10}, new int[] {3, 10}, new int[] {3, 11}), 5, 10, 1, 1);
        kept(guests(new int[] {3, 9}, new int[] {3, 10}, new int[] {3, 10}), 5, 10, 1, 2);
        kept(guests(new int[] {9, 20}, new int[] {8, 20}, new int[] {3, 10}, new int[] {3, 9}, new int[] {3, 10}), 5, 20, 2, 5);
        kept(guests(new int[] {9, 20}, new int[] {8, 20}, new int[] {3, 9}), 5, 20, 2, 6);
        // the fewest count more than the least set
        kept(guests(new int[] {3, 10}, new int[] {9, 20}, new int[] {4, 20}), 5, 20, 1, 4);
    }

    private static void allTwelveAreNeeded() {
        AfterTheLast x = new AfterTheLast();
        for (int i = 11; i >= 0; i--) {
            x.guest(i, i + 2);
        }
        kept(x, 1, 13, 12, 0xfff);
        kept(x, 1, 12, 11, 0xffe);
        kept(x, 2, 13, 11, 0x7ff);
        kept(x, 1, 14, -2, -2);
        kept(x, 0, 1, -2, -2);
        AfterTheLast alike = new AfterTheLast();
        for (int i = 0; i < 12; i++) {
            alike.guest(0, 95);
        }
        kept(alike, 1, 95, 1, 1);
    }

    private static void refusedKept() {
        Doc.says("KEPT (who could go at a QUARTER, to be there till another one) what 0: how many, 1: the set; -2: it can't be; NONE without these (QUARTERS 0 to 95).");
        int[][] none = {{-1, 5, 0}, {96, 5, 0}, {5, -1, 0}, {5, 96, 0}, {5, 6, -1}, {5, 6, 2}, {Integer.MAX_VALUE, 5, 0},
            {Integer.MIN_VALUE, 5, 0}, {5, Integer.MAX_VALUE, 0}, {5, Integer.MIN_VALUE, 0}, {5, 6, Integer.MAX_VALUE},
            {5, 6, Integer.MIN_VALUE}};
        for (int[] ask : none) {
            Twins.leave("kept " + ask[0] + ", " + ask[1] + ", " + ask[2], Twins::some, x -> x.kept(ask[0], ask[1], ask[2]), -1);
        }
        Twins.leave("kept", Twins::some, x -> x.kept(5, 70, 0), 2);
        Twins.leave("kept", Twins::some, x -> x.kept(5, 70, 1), 3);
        Twins.leave("it can't be", Twins::some, x -> x.kept(5, 71, 0), -2);
        Twins.leave("it can't be", Twins::some, x -> x.kept(4, 5, 1), -2);
    }

    private static void knocks(int c, int n, int w, int e, int t, int value, int let) {
        AfterTheLast x = new AfterTheLast();
        String name = "knocks " + c + " " + n + " " + w + " " + e + " " + t;
        Check.is(name + ": value", x.knocks(c, n, w, e, t, 0), value);
        Check.is(name + ": let", x.knocks(c, n, w, e, t, 1), let);
    }

    private static void noKnockNoValue() {
        Doc.says("KNOCKS: at each QUARTER ahead of QUARTER e there is a knock by a chance c in 16 by one who would stay n QUARTERS for a worth w (0 to 99; all told)");
        knocks(16, 1, 99, 0, 0, 0, 0);
        for (int e = 0; e <= 95; e++) {
            // at e there is no knock any more
            knocks(16, 1, 99, e, e, 0, 0);
        }
        // by no chance nothing is worth anything, but letting in would be
        knocks(0, 1, 99, 95, 0, 0, 1);
        knocks(0, 95, 99, 95, 1, 0, 0);
        knocks(16, 1, 0, 95, 0, 0, 0);
        knocks(1, 1, 99, 95, 94, 99000 / 16, 1);
    }

    private static void downwards() {
        Doc.says("VALUE at QUARTER t (whoever was let in is gone): V(e) is 0; V(t) = (c times the greater of V(t + 1) and 1000 * w + V(t + n) (if t + n is not above e), and (16 - c) times V(t + 1)) by 16, downwards.");
        for (int t = 0; t <= 95; t++) {
            knocks(16, 1, 99, 95, t, 99000 * (95 - t), t < 95 ? 1 : 0);
        }
        // of 1000 a sixteenth, downwards: 62, then (62 + 1000 + 15 * 62) / 16 = 124, and so on by 62 and a half
        knocks(1, 1, 1, 1, 0, 62, 1);
        knocks(1, 1, 1, 2, 0, 124, 1);
        knocks(1, 1, 1, 3, 0, 186, 1);
        knocks(15, 1, 1, 1, 0, 937, 1);
        // (15 * (1000 + 937) + 937) / 16 = 1874 and a half
        knocks(15, 1, 1, 2, 0, 1874, 1);
        knocks(8, 2, 1, 2, 0, 500, 1);
        knocks(8, 2, 1, 3, 0, 750, 1);
        // (8 * (1000 + 500) + 8 * 750) / 16
        knocks(8, 2, 1, 4, 0, 1125, 1);
    }

    private static void goesNotBehindE() {
        Doc.says("he may be let in if nobody who was let in is still there, and he goes not behind e.");
        for (int n = 1; n <= 95; n++) {
            knocks(16, n, 7, n, 0, 7000, 1);
            knocks(16, n, 7, n, 1, 0, 0);
            knocks(16, n, 7, n - 1, 0, 0, 0);
            knocks(16, n, 7, 95, 95 - n, 7000, 1);
            if (n > 1) {
                knocks(16, n, 7, 95, 96 - n, 0, 0);
            }
        }
        knocks(16, 95, 99, 95, 0, 99000, 1);
        knocks(16, 95, 99, 94, 0, 0, 0);
    }

    private static void sixteenths() {
        for (int c = 0; c <= 16; c++) {
            knocks(c, 1, 99, 1, 0, 99000 * c / 16, 1);
            knocks(c, 1, 1, 1, 0, 1000 * c / 16, 1);
            knocks(c, 1, 0, 1, 0, 0, 0);
        }
    }

    private static void betterThanNot() {
        Doc.says("LET at t: 1 if letting in is better than not.");
        // with a knock at each quarter: at 3 letting in is worth 10000, and so is waiting till 3
        knocks(16, 5, 10, 8, 3, 10000, 1);
        knocks(16, 5, 10, 8, 2, 10000, 0);
        knocks(16, 5, 10, 8, 0, 10000, 0);
        knocks(16, 5, 10, 10, 0, 20000, 1);
        knocks(16, 5, 10, 10, 1, 10000, 0);
        // with a chance below 16 the one who knocks is better than one who might
        knocks(15, 5, 10, 8, 2, 9960, 1);
        knocks(16, 1, 0, 95, 3, 0, 0);
        knocks(8, 5, 0, 95, 3, 0, 0);
    }

    private static void refusedKnocks() {
        Doc.says("KNOCKS (c 0 to 16, n 1 to 95, w 0 to 99, e, t 0 to 95, t not above e) what 0: VALUE, 1: LET; NONE without these.");
        int[] good = {8, 5, 50, 90, 10, 0};
        int[][] none = {{-1, 17}, {0, 96}, {-1, 100}, {-1, 96}, {-1, 91}, {-1, 2}};
        for (int at = 0; at < 6; at++) {
            int[] wrong = {none[at][0], none[at][1], Integer.MIN_VALUE, Integer.MAX_VALUE};
            for (int n : wrong) {
                int[] a = good.clone();
                a[at] = n;
                Twins.leave("knocks, number " + at + " " + n, Twins::some, x -> x.knocks(a[0], a[1], a[2], a[3], a[4], a[5]), -1);
            }
        }
        Check.is("e below t", new AfterTheLast().knocks(8, 5, 50, 9, 10, 0), -1);
        Check.is("e as t", new AfterTheLast().knocks(8, 5, 50, 10, 10, 0), 0);
        for (int what = 0; what < 2; what++) {
            int w = what;
            Twins.leave("knocks", Twins::some, x -> x.knocks(8, 5, 50, 90, 85, w), what == 0 ? 25000 : 1);
        }
    }

    /** What was asked ahead says nothing of what is asked then. */
    private static void oneKnockBehindAnother() {
        AfterTheLast x = new AfterTheLast();
        for (int i = 0; i < 96; i++) {
            int e = i * 37 % 96;
            Check.is("each quarter till " + e, x.knocks(16, 1, 99, e, 0, 0), 99000 * e);
            Check.is("at " + e, x.knocks(16, 1, 99, e, e, 0), 0);
            Check.is("the last one of 7", x.knocks(16, 7, 3, e, Math.max(0, e - 7), 0), e >= 7 ? 3000 : 0);
        }
    }
}

/** Promises 14 (cross), 15 (fits), 16 (most) and 17 (houses). */
public final class CrossTest {
    public static void main(String[] args) {
        crossing();
        sets();
        mostOfAHouse();
        mostWithRoom();
        mostOfSeveral();
        parts();
        Check.done();
    }

    /** A street of one house with stays told as from and till, or from, till and worth. */
    private static AfterTheLast stays(int room, int[][] stays) {
        StringBuilder b = new StringBuilder("house free ").append(room).append(" 0");
        for (int i = 0; i < stays.length; i++) {
            int worth = stays[i].length > 2 ? stays[i][2] : 1;
            b.append(";stay ").append(i % 12).append(" 0 ").append(stays[i][0]).append(' ').append(stays[i][1]).append(' ').append(worth);
        }
        return Check.with(b.toString());
    }

    private static void two(int f, int t, int g, int u, int last, int first) {
        AfterTheLast x = stays(2, new int[][] {{f, t}, {g, u}});
        String name = f + " to " + t + ", " + g + " to " + u;
        Check.is(name + " by last", x.cross(0, 1, 0), last);
        Check.is(name + " by last, turned", x.cross(1, 0, 0), last);
        Check.is(name + " by first", x.cross(0, 1, 1), first);
        Check.is(name + " by first, turned", x.cross(1, 0, 1), first);
        Check.is(name + " by free", x.cross(0, 1, 2), 0);
    }

    private static void crossing() {
        two(0, 5, 3, 8, 1, 0);
        two(0, 5, 5, 8, 0, 0);
        two(0, 5, 6, 8, 0, 0);
        two(0, 5, 4, 6, 1, 0);
        two(0, 5, 0, 8, 0, 0);
        two(0, 5, 3, 5, 0, 0);
        two(0, 5, 0, 5, 0, 0);
        two(0, 9, 3, 5, 0, 1);
        two(0, 5, 1, 4, 0, 1);
        AfterTheLast x = Check.with("house last 3 1;house last 3 1;stay 0 0 0 5 1;stay 1 1 3 8 1");
        Check.is("whatever houses", x.cross(0, 1, 0), 1);
        Check.is("one with itself", x.cross(1, 1, 0), -1);
        Check.is("no such one", x.cross(2, 0, 0), -1);
        Check.is("no such other", x.cross(0, 2, 0), -1);
        Check.is("none below 0", x.cross(-1, 0, 0), -1);
        Check.is("no law 3", x.cross(0, 1, 3), -1);
        Check.is("no law -1", x.cross(0, 1, -1), -1);
    }

    private static void sets() {
        // 0 crosses 1 and 2, 1 crosses 2 by last; 3 lies within 0, 1 and 2
        AfterTheLast x = stays(4, new int[][] {{0, 10}, {2, 12}, {4, 14}, {5, 6}});
        int[][] due = {{0, 0, 0}, {1, 0, 0}, {3, 1, 0}, {7, 3, 0}, {15, 3, 3}, {9, 0, 1}, {8, 0, 0}, {5, 1, 0}, {14, 1, 2}};
        for (int[] row : due) {
            Check.is("crossings of " + row[0] + " by last", x.fits(row[0], 0, 1), row[1]);
            Check.is("fits " + row[0] + " by last", x.fits(row[0], 0, 0), row[1] == 0 ? 1 : 0);
            Check.is("crossings of " + row[0] + " by first", x.fits(row[0], 1, 1), row[2]);
            Check.is("fits " + row[0] + " by first", x.fits(row[0], 1, 0), row[2] == 0 ? 1 : 0);
            Check.is("crossings of " + row[0] + " by free", x.fits(row[0], 2, 1), 0);
            Check.is("fits " + row[0] + " by free", x.fits(row[0], 2, 0), 1);
        }
        Check.is("a set with another stay", x.fits(16, 0, 0), -1);
        Check.is("a set below 0", x.fits(-1, 0, 0), -1);
        Check.is("the greatest set", x.fits(Integer.MAX_VALUE, 0, 0), -1);
        Check.is("no law 3", x.fits(1, 3, 0), -1);
        Check.is("no law -1", x.fits(1, -1, 0), -1);
        Check.is("what 2", x.fits(1, 0, 2), -1);
        Check.is("what -1", x.fits(1, 0, -1), -1);
    }

    private static void most(String name, AfterTheLast x, int house, int worth, int set) {
        Check.is(name + ": worth", x.most(house, 0), worth);
        Check.is(name + ": set", x.most(house, 1), set);
    }

    private static void mostOfAHouse() {
        most("no stays", Check.with("house last 1 0"), 0, 0, 0);
        most("one stay", stays(1, new int[][] {{0, 5, 7}}), 0, 7, 1);
        most("two that cross", stays(9, new int[][] {{0, 5, 7}, {3, 8, 9}}), 0, 9, 2);
        most("by the law last, whatever law", stays(9, new int[][] {{0, 9, 7}, {3, 8, 9}}), 0, 16, 3);
        most("two that touch", stays(1, new int[][] {{0, 5, 7}, {5, 8, 9}}), 0, 16, 3);
        most("three for one", stays(9, new int[][] {{0, 4, 3}, {2, 7, 5}, {6, 9, 3}}), 0, 6, 5);
        AfterTheLast x = Check.with("house first 9 0;house last 9 0;stay 0 1 0 4 3;stay 0 0 2 6 50;stay 0 1 5 7 4");
        most("its own stays alone", x, 1, 7, 5);
        most("the other one's", x, 0, 50, 2);
        Check.is("no such house", x.most(2, 0), -1);
        Check.is("no house below 0", x.most(-1, 0), -1);
        Check.is("what 2", x.most(0, 2), -1);
        Check.is("what -1", x.most(0, -1), -1);
    }

    private static void mostWithRoom() {
        int[][] nested = {{0, 20, 5}, {1, 19, 6}, {2, 18, 7}, {3, 17, 8}};
        most("room 1", stays(1, nested), 0, 8, 8);
        most("room 2", stays(2, nested), 0, 15, 12);
        most("room 3", stays(3, nested), 0, 21, 14);
        most("room 4", stays(4, nested), 0, 26, 15);
        int[][] beside = {{0, 20, 9}, {1, 5, 4}, {5, 9, 4}, {9, 12, 4}};
        most("beside one another, room 1", stays(1, beside), 0, 12, 14);
        most("beside one another, room 2", stays(2, beside), 0, 21, 15);
        int[][] same = {{3, 9, 5}, {3, 9, 6}, {3, 9, 4}};
        most("the same, room 1", stays(1, same), 0, 6, 2);
        most("the same, room 2", stays(2, same), 0, 11, 3);
        most("the same, room 3", stays(3, same), 0, 15, 7);
        int[][] many = new int[18][];
        for (int i = 0; i < 18; i++) {
            many[i] = new int[] {i, 95 - i, 99};
        }
        most("18 within one another, room 12", stays(12, many), 0, 12 * 99, (1 << 12) - 1);
    }

    private static void mostOfSeveral() {
        most("worth 0 is left out", stays(9, new int[][] {{0, 4, 0}, {4, 8, 0}}), 0, 0, 0);
        most("worth 0 beside others", stays(9, new int[][] {{0, 4, 0}, {4, 8, 3}}), 0, 3, 2);
        most("the least of two", stays(9, new int[][] {{0, 5, 7}, {3, 8, 7}}), 0, 7, 1);
        most("the least as bits", stays(9, new int[][] {{0, 4, 2}, {5, 9, 2}, {3, 6, 4}}), 0, 4, 3);
        most("the least as bits, told otherwise", stays(9, new int[][] {{3, 6, 4}, {0, 4, 2}, {5, 9, 2}}), 0, 4, 1);
    }

    private static void parts() {
        AfterTheLast ring = stays(9, new int[][] {{1, 8}, {0, 3}, {2, 5}, {4, 7}, {6, 9}});
        Check.is("a ring of five: houses", ring.houses(31, 0, 0), 3);
        Check.is("a ring of five: gap", ring.houses(31, 0, 1), 2);
        Check.is("a ring of five less one: houses", ring.houses(30, 0, 0), 2);
        Check.is("by first: houses", ring.houses(31, 1, 0), 2);
        Check.is("by first: gap", ring.houses(31, 1, 1), 2);
        Check.is("by free: houses", ring.houses(31, 2, 0), 1);
        Check.is("by free: gap", ring.houses(31, 2, 1), 1);
        Check.is("one: houses", ring.houses(4, 0, 0), 1);
        Check.is("one: gap", ring.houses(4, 0, 1), 1);
        AfterTheLast three = stays(9, new int[][] {{0, 1}, {10, 20}, {12, 22}, {14, 24}, {21, 30}});
        Check.is("three of five: houses", three.houses(31, 0, 0), 3);
        Check.is("three of five: gap", three.houses(31, 0, 1), 3);
        Check.is("the other ones: gap", three.houses(19, 0, 1), 1);
        int[][] many = new int[13][];
        for (int i = 0; i < 13; i++) {
            many[i] = new int[] {i, 20 + i};
        }
        AfterTheLast x = stays(9, many);
        Check.is("twelve that cross: houses", x.houses(0xfff, 0, 0), 12);
        Check.is("twelve that cross: gap", x.houses(0xfff, 0, 1), 12);
        Check.is("twelve that cross, by first: houses", x.houses(0x1ffe, 1, 0), 1);
        Check.is("thirteen", x.houses(0x1fff, 0, 0), -1);
        Check.is("none", x.houses(0, 0, 0), -1);
        Check.is("another stay", x.houses(1 << 13, 0, 0), -1);
        Check.is("below 0", x.houses(-1, 0, 0), -1);
        Check.is("no law 3", x.houses(1, 3, 0), -1);
        Check.is("no law -1", x.houses(1, -1, 0), -1);
        Check.is("what 2", x.houses(1, 0, 2), -1);
        Check.is("what -1", x.houses(1, 0, -1), -1);
    }
}

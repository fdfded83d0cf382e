import java.util.List;

/** The boundary cases of promises 14 (cross), 15 (fits), 16 (most) and 17 (houses). */
public final class CrossEdgeTest {
    public static void main(String[] args) {
        eachTwoOfSmallStays();
        refusedCross();
        theEmptySet();
        theFullSet();
        refusedFits();
        atAnyTime();
        mostOfNothing();
        ofSeveralTheLeast();
        aFullHouse();
        refusedMost();
        oneStayToTwelve();
        fewestAndGap();
        whateverNumbersTheyHave();
        refusedHouses();
        oneHouseBehindAnother();
        Check.done();
    }

    private static AfterTheLast stays(int room, int[]... stays) {
        StringBuilder b = new StringBuilder("house free ").append(room).append(" 0");
        for (int[] s : stays) {
            b.append(";stay 0 0 ").append(s[0]).append(' ').append(s[1]).append(' ').append(s.length > 2 ? s[2] : 1);
        }
        return Check.with(b.toString());
    }

    private static AfterTheLast alike(int many, int from, int till) {
        int[][] all = new int[many][];
        for (int i = 0; i < many; i++) {
            all[i] = new int[] {from, till, 99};
        }
        return stays(12, all);
    }

    private static void eachTwoOfSmallStays() {
        Doc.says("Two STAYS CROSS by a law: last: one begins behind the other one's begin, ahead of its end, and ends behind that; first: one begins behind the other one and ends ahead of it; free: never.");
        int[][] all = {{0, 1}, {0, 2}, {0, 3}, {0, 4}, {1, 2}, {1, 3}, {1, 4}, {2, 3}, {2, 4}, {3, 4}, {0, 4}};
        String[] last = {"02 13", "02 14", "03 14", "03 24", "13 24"};
        String[] first = {"03 12", "04 12", "04 13", "04 23", "14 23"};
        AfterTheLast x = stays(1, all);
        for (int one = 0; one < all.length; one++) {
            for (int other = 0; other < all.length; other++) {
                if (one != other) {
                    String two = "" + all[one][0] + all[one][1] + " " + all[other][0] + all[other][1];
                    String turned = two.substring(3) + " " + two.substring(0, 2);
                    boolean byLast = List.of(last).contains(two) || List.of(last).contains(turned);
                    boolean byFirst = List.of(first).contains(two) || List.of(first).contains(turned);
                    Check.is(two + " by last", x.cross(one, other, 0), byLast ? 1 : 0);
                    Check.is(two + " by first", x.cross(one, other, 1), byFirst ? 1 : 0);
                    Check.is(two + " by free", x.cross(one, other, 2), 0);
                    Check.is(two + " by last", x.fits(1 << one | 1 << other, 0, 0), byLast ? 0 : 1);
                    Check.is(two + " by first", x.fits(1 << one | 1 << other, 1, 1), byFirst ? 1 : 0);
                }
            }
        }
        AfterTheLast limits = stays(1, new int[] {0, 94}, new int[] {93, 95}, new int[] {94, 95});
        Check.is("at the limits", limits.cross(0, 1, 0), 1);
        Check.is("touching", limits.cross(0, 2, 0), 0);
        Check.is("with one end", limits.cross(1, 2, 0), 0);
    }

    private static void refusedCross() {
        Doc.says("1 if two STAYS CROSS by a law (0 to 2), 0 if not; NONE without these (unlike).");
        int[][] none = {{0, 0, 0}, {4, 4, 2}, {5, 0, 0}, {0, 5, 0}, {-1, 0, 0}, {0, -1, 0}, {0, 1, 3}, {0, 1, -1},
            {Integer.MAX_VALUE, 0, 0}, {0, Integer.MAX_VALUE, 0}, {0, 1, Integer.MAX_VALUE}, {Integer.MIN_VALUE, 0, 0},
            {0, Integer.MIN_VALUE, 0}, {0, 1, Integer.MIN_VALUE}, {5, 5, 0}, {-1, -1, 0}, {17, 18, 0}};
        for (int[] ask : none) {
            Twins.leave("cross " + ask[0] + ", " + ask[1] + ", " + ask[2], Twins::some, x -> x.cross(ask[0], ask[1], ask[2]), -1);
        }
        Twins.leave("cross 2 and 3", Twins::some, x -> x.cross(2, 3, 0), 1);
        Check.is("without stays", Check.with("house free 1 0").cross(0, 1, 0), -1);
        Check.is("without a street", new AfterTheLast().cross(0, 1, 0), -1);
        AfterTheLast full = alike(18, 0, 95);
        Check.is("the last two", full.cross(16, 17, 1), 0);
        Check.is("beyond", full.cross(17, 18, 1), -1);
    }

    private static void theEmptySet() {
        Doc.says("FITS: of a set of STAYS (whatever HOUSES) no two CROSS. CROSSINGS: twos that do.");
        for (int law = 0; law < 3; law++) {
            Check.is("of no street", new AfterTheLast().fits(0, law, 0), 1);
            Check.is("of no street", new AfterTheLast().fits(0, law, 1), 0);
            AfterTheLast x = stays(1, new int[] {0, 5}, new int[] {3, 9});
            Check.is("none", x.fits(0, law, 0), 1);
            Check.is("none", x.fits(0, law, 1), 0);
            Check.is("one", x.fits(1, law, 0), 1);
            Check.is("one", x.fits(2, law, 1), 0);
            Check.is("two", x.fits(3, law, 0), law == 0 ? 0 : 1);
            Check.is("two", x.fits(3, law, 1), law == 0 ? 1 : 0);
        }
        AfterTheLast y = Check.with("house last 1 0;house last 1 0;stay 0 0 0 5 0;stay 1 1 3 9 0");
        Check.is("whatever houses", y.fits(3, 0, 0), 0);
    }

    private static void theFullSet() {
        int[][] stairs = new int[18][];
        int[][] nest = new int[18][];
        for (int i = 0; i < 18; i++) {
            stairs[i] = new int[] {i, 70 + i};
            nest[i] = new int[] {i, 95 - i};
        }
        int all = (1 << 18) - 1;
        Check.is("each two by last", stays(1, stairs).fits(all, 0, 1), 18 * 17 / 2);
        Check.is("none by first", stays(1, stairs).fits(all, 1, 0), 1);
        Check.is("none by last", stays(1, nest).fits(all, 0, 0), 1);
        Check.is("each two by first", stays(1, nest).fits(all, 1, 1), 18 * 17 / 2);
        Check.is("none by free", stays(1, nest).fits(all, 2, 1), 0);
    }

    private static void refusedFits() {
        Doc.says("What 0: 1 if a set FITS, else 0, 1: CROSSINGS; NONE without these (a set of STAYS, 0 and above).");
        int[][] none = {{32, 0, 0}, {33, 0, 0}, {-1, 0, 0}, {Integer.MIN_VALUE, 0, 0}, {Integer.MAX_VALUE, 0, 0}, {1 << 18, 0, 0},
            {1 << 30, 0, 0}, {31, -1, 0}, {31, 3, 0}, {31, 0, -1}, {31, 0, 2}, {31, Integer.MAX_VALUE, 0}, {31, Integer.MIN_VALUE, 0},
            {31, 0, Integer.MAX_VALUE}, {31, 0, Integer.MIN_VALUE}};
        for (int[] ask : none) {
            Twins.leave("fits " + ask[0] + ", " + ask[1] + ", " + ask[2], Twins::some, x -> x.fits(ask[0], ask[1], ask[2]), -1);
        }
        // 1 to 9 crosses 0 to 5, 0 to 4 and 6 to 20 by last, and no others do
        Twins.leave("all", Twins::some, x -> x.fits(31, 0, 1), 3);
        Twins.leave("all but that one", Twins::some, x -> x.fits(27, 0, 0), 1);
        Check.is("a stay of no street", new AfterTheLast().fits(1, 0, 0), -1);
        Check.is("a 19th", alike(18, 0, 95).fits(1 << 18, 0, 0), -1);
        Check.is("an 18th", alike(18, 0, 95).fits(1 << 17, 0, 0), 1);
    }

    private static void most(AfterTheLast x, int house, int worth, int set) {
        Check.is("worth", x.most(house, 0), worth);
        Check.is("set", x.most(house, 1), set);
    }

    private static void atAnyTime() {
        Doc.says("MOST of a HOUSE: the greatest worth together of a set of its STAYS of which no two CROSS by the law last, and no more than its room at any time (a STAY counts from its from to ahead of its till)");
        most(stays(1, new int[] {0, 5}, new int[] {5, 9}), 0, 2, 3);
        most(stays(1, new int[] {0, 6}, new int[] {5, 9}), 0, 1, 1);
        most(stays(2, new int[] {0, 6}, new int[] {5, 9}), 0, 1, 1);
        most(stays(1, new int[] {0, 9}, new int[] {5, 9}), 0, 1, 1);
        most(stays(2, new int[] {0, 9}, new int[] {5, 9}), 0, 2, 3);
        most(stays(1, new int[] {0, 9}, new int[] {0, 5}), 0, 1, 1);
        most(stays(2, new int[] {0, 9}, new int[] {0, 5}, new int[] {5, 9}), 0, 3, 7);
        most(stays(1, new int[] {0, 9}, new int[] {0, 5}, new int[] {5, 9}), 0, 2, 6);
        most(stays(2, new int[] {0, 9}, new int[] {0, 9}, new int[] {0, 9}), 0, 2, 3);
        most(stays(1, new int[] {0, 1}, new int[] {94, 95}), 0, 2, 3);
        for (String law : new String[] {"last", "first", "free"}) {
            AfterTheLast x = Check.with("house " + law + " 2 0;stay 0 0 0 5 1;stay 0 0 3 9 1");
            most(x, 0, 1, 1);
            AfterTheLast y = Check.with("house " + law + " 2 0;stay 0 0 0 9 1;stay 0 0 3 5 1");
            most(y, 0, 2, 3);
        }
    }

    private static void mostOfNothing() {
        most(stays(1), 0, 0, 0);
        most(stays(12, new int[] {0, 5, 0}), 0, 0, 0);
        most(stays(12, new int[] {0, 5, 0}, new int[] {5, 6, 1}), 0, 1, 2);
        AfterTheLast x = Check.with("house free 1 0;house free 1 0;stay 0 1 0 9 7");
        most(x, 0, 0, 0);
        most(x, 1, 7, 1);
        Check.rule(x, "come 1=1");
        x.tick(0, 96);
        most(x, 1, 7, 1);
    }

    private static void ofSeveralTheLeast() {
        Doc.says("of several sets the least, as bits.");
        most(stays(1, new int[] {0, 5, 3}, new int[] {0, 5, 3}, new int[] {0, 5, 3}), 0, 3, 1);
        most(stays(2, new int[] {0, 5, 3}, new int[] {0, 5, 3}, new int[] {0, 5, 3}), 0, 6, 3);
        most(stays(1, new int[] {0, 5, 3}, new int[] {0, 5, 4}, new int[] {0, 5, 4}), 0, 4, 2);
        // 1 and 2 are as good as 3 alone, and less as bits; 3 alone is less than 4 and 5
        most(stays(1, new int[] {0, 1, 0}, new int[] {0, 5, 2}, new int[] {5, 9, 2}, new int[] {0, 9, 4}), 0, 4, 6);
        most(stays(1, new int[] {0, 9, 4}, new int[] {0, 5, 2}, new int[] {5, 9, 2}), 0, 4, 1);
        // 0 with 3 is as good as 1 with 2
        most(stays(1, new int[] {0, 5, 1}, new int[] {0, 4, 2}, new int[] {6, 9, 2}, new int[] {5, 9, 3}), 0, 5, 10);
        most(stays(1, new int[] {0, 5, 1}, new int[] {0, 4, 2}, new int[] {6, 9, 2}, new int[] {5, 9, 2}), 0, 4, 6);
    }

    private static void aFullHouse() {
        AfterTheLast x = alike(18, 0, 95);
        most(x, 0, 12 * 99, 0xfff);
        int[][] row = new int[18][];
        int[][] nest = new int[18][];
        for (int i = 0; i < 18; i++) {
            row[i] = new int[] {5 * i, 5 * i + 5, 99};
            nest[i] = new int[] {i, 95 - i, i};
        }
        most(stays(1, row), 0, 18 * 99, (1 << 18) - 1);
        most(stays(1, nest), 0, 17, 1 << 17);
        most(stays(2, nest), 0, 17 + 16, 3 << 16);
        // the worth of 6 to 17; at room 12 these are twelve
        most(stays(12, nest), 0, 6 * 23, 0xfff << 6);
    }

    private static void refusedMost() {
        Doc.says("MOST what 0: worth, 1: the set; NONE without these.");
        int[][] none = {{3, 0}, {-1, 0}, {6, 1}, {Integer.MAX_VALUE, 0}, {Integer.MIN_VALUE, 0}, {0, -1}, {0, 2}, {0, Integer.MAX_VALUE},
            {0, Integer.MIN_VALUE}};
        for (int[] ask : none) {
            Twins.leave("most " + ask[0] + ", " + ask[1], Twins::some, x -> x.most(ask[0], ask[1]), -1);
        }
        // its stays are 0 to 5, worth 10, and 1 to 9, worth 5, which cross
        Twins.leave("most worth", Twins::some, x -> x.most(0, 0), 10);
        Twins.leave("most as a set", Twins::some, x -> x.most(0, 1), 1);
        Check.is("without a street", new AfterTheLast().most(0, 0), -1);
    }

    private static void oneStayToTwelve() {
        Doc.says("What 0: HOUSES, 1: GAP; NONE without these (1 to 12 STAYS).");
        int[][] stairs = new int[18][];
        for (int i = 0; i < 18; i++) {
            stairs[i] = new int[] {i, 70 + i};
        }
        AfterTheLast x = stays(1, stairs);
        for (int many = 0; many <= 18; many++) {
            int set = (1 << many) - 1 << 18 - many;
            boolean none = many < 1 || many > 12;
            Check.is("houses for " + many, x.houses(set, 0, 0), none ? -1 : many);
            Check.is("gap of " + many, x.houses(set, 0, 1), none ? -1 : many);
            Check.is("houses by first for " + many, x.houses(set, 1, 0), none ? -1 : 1);
            Check.is("gap by free of " + many, x.houses(set, 2, 1), none ? -1 : 1);
        }
    }

    private static void fewestAndGap() {
        Doc.says("HOUSES for a set (12 STAYS at most) by a law: the fewest parts so that in each no two CROSS; GAP: the most STAYS of the set of which each two CROSS.");
        AfterTheLast alike = alike(12, 3, 9);
        Check.is("alike ones do not cross", alike.houses(0xfff, 0, 0), 1);
        Check.is("gap", alike.houses(0xfff, 0, 1), 1);
        Check.is("by first", alike.houses(0xfff, 1, 0), 1);
        // a ring of five that cross: two parts are too few, though of no three each two cross
        AfterTheLast ring = stays(1, new int[] {0, 3}, new int[] {1, 8}, new int[] {2, 5}, new int[] {4, 7}, new int[] {6, 9}, new int[] {0, 95});
        Check.is("three for a ring of five", ring.houses(31, 0, 0), 3);
        Check.is("gap of a ring of five", ring.houses(31, 0, 1), 2);
        Check.is("with one about them all", ring.houses(63, 0, 0), 3);
        Check.is("by first: one about them all", ring.houses(63, 1, 1), 3);
        for (int one = 0; one < 5; one++) {
            Check.is("without one two are enough", ring.houses(31 & ~(1 << one), 0, 0), 2);
        }
        AfterTheLast two = Check.with("house last 1 0;house last 1 0;stay 0 0 0 5 0;stay 1 1 3 9 0");
        Check.is("whatever houses", two.houses(3, 0, 0), 2);
    }

    private static void refusedHouses() {
        int[][] none = {{0, 0, 0}, {32, 0, 0}, {-1, 0, 0}, {Integer.MIN_VALUE, 0, 0}, {Integer.MAX_VALUE, 0, 0}, {31, 3, 0}, {31, -1, 0},
            {31, 0, 2}, {31, 0, -1}, {31, Integer.MAX_VALUE, 0}, {31, Integer.MIN_VALUE, 0}, {31, 0, Integer.MAX_VALUE},
            {31, 0, Integer.MIN_VALUE}, {1 << 18, 0, 0}};
        for (int[] ask : none) {
            Twins.leave("houses " + ask[0] + ", " + ask[1] + ", " + ask[2], Twins::some, x -> x.houses(ask[0], ask[1], ask[2]), -1);
        }
        Twins.leave("houses", Twins::some, x -> x.houses(31, 0, 0), 2);
        Twins.leave("gap", Twins::some, x -> x.houses(31, 0, 1), 2);
        Check.is("without a street", new AfterTheLast().houses(1, 0, 0), -1);
        Check.is("thirteen", alike(18, 0, 95).houses(0x1fff, 0, 0), -1);
        Check.is("eighteen", alike(18, 0, 95).houses((1 << 18) - 1, 0, 1), -1);
    }

    /** Which of six stays cross is told by bits: the others stand far off, and cross nobody. */
    private static void whateverNumbersTheyHave() {
        for (int set = 1; set < 64; set++) {
            int[][] all = new int[6][];
            for (int i = 0; i < 6; i++) {
                all[i] = (set >> i & 1) == 1 ? new int[] {i, 20 + i} : new int[] {40, 50};
            }
            AfterTheLast x = stays(1, all);
            Check.is("gap of " + set, x.houses(63, 0, 1), Integer.bitCount(set));
            Check.is("houses for " + set, x.houses(63, 0, 0), Integer.bitCount(set));
            Check.is("crossings of " + set, x.fits(63, 0, 1), Integer.bitCount(set) * (Integer.bitCount(set) - 1) / 2);
        }
    }

    /** What was asked of one house, or of one set, says nothing of another one. */
    private static void oneHouseBehindAnother() {
        AfterTheLast x = Check.with("house free 1 0;house free 1 0;house free 2 0;house free 1 0;stay 0 0 0 4 3;stay 0 0 4 8 3;stay 0 0 8 12 3;"
            + "stay 0 1 0 9 3;stay 0 1 1 8 4;stay 0 1 2 7 5;stay 0 2 0 9 3;stay 0 2 1 8 4;stay 0 2 2 7 5");
        int[][] due = {{9, 7}, {5, 32}, {9, 384}, {0, 0}};
        for (int i = 0; i < 16; i++) {
            int house = i * (i / 4 * 2 + 1) % 4;
            most(x, house, due[house][0], due[house][1]);
        }
        AfterTheLast y = stays(1, new int[] {0, 9}, new int[] {3, 12}, new int[] {6, 15}, new int[] {20, 30});
        for (int i = 0; i < 6; i++) {
            Check.is("three by last", y.houses(7, 0, 0), 3);
            Check.is("two of these", y.houses(5, 0, 1), 2);
            Check.is("one", y.houses(8, 0, 1), 1);
            Check.is("by first", y.houses(15, 1, 0), 1);
        }
        Check.street(x, "house free 1 0;stay 0 0 0 9 3;stay 0 0 1 8 4;stay 0 0 2 7 5");
        most(x, 0, 5, 4);
    }
}

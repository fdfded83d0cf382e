/** The boundary cases of promises 20 (waits), 21 (rings), 22 (worth) and 23 (asks). */
public final class RingEdgeTest {
    public static void main(String[] args) {
        forWhomHeDid();
        refusedWaits();
        behindAComingOfOneOfThese();
        otherComingsAndGoings();
        needsByEachLaw();
        unlessInTheSameHouse();
        oneOutsideNeedsNobody();
        theShortestRing();
        stuck();
        undone();
        refusedRings();
        worths();
        refusedWorths();
        asks();
        refusedAsks();
        Check.done();
    }

    private static void forWhomHeDid() {
        Doc.says("One WAITS for another one (NONE: for nobody): for whom he did; -2, and nothing happens, without these (unlike).");
        AfterTheLast x = new AfterTheLast();
        Check.is("for nobody at first", x.waits(0, 11), -1);
        Check.is("told", x.person(0, 4), 11);
        Check.is("for 11 before", x.waits(0, 11), 11);
        Check.is("for 11 before", x.waits(0, 1), 11);
        Check.is("one for at most", x.person(0, 4), 1);
        Check.is("for 1 before", x.waits(0, -1), 1);
        Check.is("for nobody", x.person(0, 4), -1);
        Check.is("for nobody before", x.waits(0, -1), -1);
        Check.is("the last one", x.waits(11, 0), -1);
        Check.is("told", x.person(11, 4), 0);
        Check.is("the other one does not wait", x.person(0, 4), -1);
    }

    private static void refusedWaits() {
        int[][] none = {{0, 0}, {11, 11}, {-1, 0}, {12, 0}, {0, 12}, {0, -2}, {-1, -1}, {12, -1}, {12, 12}, {Integer.MAX_VALUE, 0},
            {Integer.MIN_VALUE, 0}, {0, Integer.MAX_VALUE}, {0, Integer.MIN_VALUE}, {Integer.MIN_VALUE, -1}};
        for (int[] ask : none) {
            Twins.leave("waits " + ask[0] + ", " + ask[1], Twins::some, x -> x.waits(ask[0], ask[1]), -2);
        }
    }

    private static void behindAComingOfOneOfThese() {
        Doc.says("WAITS: one waits for another one to come where he is (told; for one at most), till, behind a coming of one of these two, both are in one HOUSE (or it is told otherwise).");
        AfterTheLast x = Check.with("house free 9 9;house free 9 9");
        x.waits(0, 1);
        x.waits(1, 0);
        x.waits(2, 0);
        x.come(0, 0);
        Check.is("alone", x.person(0, 4), 1);
        x.come(2, 1);
        Check.is("elsewhere", x.person(2, 4), 0);
        x.come(1, 0);
        Check.is("he came where the other one is", x.person(1, 4), -1);
        Check.is("and the other one waited for him", x.person(0, 4), -1);
        Check.is("who is elsewhere waits", x.person(2, 4), 0);
        x.waits(0, 1);
        Check.is("told when both are there", x.person(0, 4), 1);
        x.go(2, false);
        Check.is("a going of another one ends nothing", x.person(0, 4), 1);
        x.come(2, 0);
        Check.is("a coming of another one ends nothing", x.person(0, 4), 1);
        Check.is("2 came himself", x.person(2, 4), -1);
        x.go(0, false);
        Check.is("outside he waits", x.person(0, 4), 1);
        x.come(0, 1);
        Check.is("elsewhere he waits", x.person(0, 4), 1);
        x.go(0, false);
        x.come(0, 0);
        Check.is("both are there behind his coming", x.person(0, 4), -1);
    }

    private static void otherComingsAndGoings() {
        AfterTheLast x = Check.with("house last 9 9;stay 1 0 1 9 0;stay 0 0 2 9 0");
        Check.rule(x, "come 1=1");
        x.waits(0, 1);
        x.waits(2, 1);
        x.come(2, 0);
        x.tick(0, 1);
        Check.is("not yet", x.person(2, 4), 1);
        x.tick(0, 1);
        Check.is("1 came by a rule", x.person(2, 4), -1);
        Check.is("0 is outside", x.person(0, 4), 1);
        x.tick(0, 1);
        Check.is("0 came by a rule", x.person(0, 4), -1);
        AfterTheLast y = Check.with("house last 1 0");
        y.waits(0, 1);
        y.come(0, 0);
        y.come(1, 0);
        Check.is("a coming that was refused ends nothing", y.person(0, 4), 1);
        Check.street(y, "house last 1 0");
        Check.is("a new street: nobody waits", y.person(0, 4), -1);
    }

    private static void rings(String name, AfterTheLast x, int shortest, int stuck, int undone, int many) {
        Check.is(name + ": shortest", x.rings(0), shortest);
        Check.is(name + ": stuck", x.rings(1), stuck);
        Check.is(name + ": undone", x.rings(2), undone);
        Check.is(name + ": how many", x.rings(3), many);
    }

    /** 0, 1, 2 in house 0, and 5 in house 1; one of these waits for 5, who waits for another one. */
    private static AfterTheLast three(String law, int waits, int awaited) {
        AfterTheLast x = Check.with("house " + law + " 9 0;house free 9 0");
        for (int p = 0; p < 3; p++) {
            x.come(p, 0);
        }
        x.come(5, 1);
        x.waits(waits, 5);
        x.waits(5, awaited);
        return x;
    }

    private static void needsByEachLaw() {
        Doc.says("NEEDS: one who is in a HOUSE needs those there who must go ahead of him (last: all who came after him; first: all who came before; free: none), and, if he waits, the one for whom he waits, unless that one is in the same HOUSE.");
        for (int waits = 0; waits < 3; waits++) {
            for (int awaited = 0; awaited < 3; awaited++) {
                // 5 needs the awaited one, who comes to the waiting one by the law, who needs 5
                int last = awaited == waits ? 2 : awaited < waits ? 3 : 0;
                int first = awaited == waits ? 2 : awaited > waits ? 3 : 0;
                int free = awaited == waits ? 2 : 0;
                String name = waits + " for 5 for " + awaited;
                Check.is("last: " + name, three("last", waits, awaited).rings(0), last);
                Check.is("first: " + name, three("first", waits, awaited).rings(0), first);
                Check.is("free: " + name, three("free", waits, awaited).rings(0), free);
            }
        }
    }

    private static void unlessInTheSameHouse() {
        AfterTheLast x = Check.with("house free 9 0;house free 9 0");
        x.come(0, 0);
        x.come(1, 0);
        x.waits(0, 1);
        x.waits(1, 0);
        rings("in the same house", x, 0, 0, 0, 0);
        x.go(1, false);
        rings("outside", x, 0, 0, 0, 0);
        Check.is("he waits", x.person(1, 4), 0);
        x.come(1, 1);
        rings("in two houses", x, 2, 3, 1, 1);
        AfterTheLast y = Check.with("house last 9 0");
        y.come(0, 0);
        y.come(1, 0);
        y.waits(1, 0);
        rings("by the law last the last one waits for the first one there", y, 0, 0, 0, 0);
    }

    private static void oneOutsideNeedsNobody() {
        Doc.says("(One outside needs nobody.)");
        AfterTheLast x = Check.with("house free 9 0;house free 9 0");
        for (int p = 0; p < 12; p++) {
            x.waits(p, (p + 1) % 12);
        }
        rings("all outside", x, 0, 0, 0, 0);
        for (int p = 0; p < 11; p++) {
            x.come(p, p % 2);
        }
        rings("all but one inside", x, 0, 0, 0, 0);
        x.come(11, 1);
        rings("all inside", x, 12, 4095, 1, 1);
        rings("of nobody", new AfterTheLast(), 0, 0, 0, 0);
        AfterTheLast none = new AfterTheLast();
        none.waits(0, 1);
        none.waits(1, 0);
        rings("without a street", none, 0, 0, 0, 0);
    }

    private static void theShortestRing() {
        Doc.says("A RING: PEOPLE each of whom needs the next one, the last the first. The shortest RING: how many.");
        for (int many = 2; many <= 12; many++) {
            AfterTheLast x = Check.with("house free 12 0;house free 12 0;house free 12 0");
            for (int p = 0; p < many; p++) {
                x.come(p, p == many - 1 ? 2 : p % 2);
            }
            for (int p = 0; p < many; p++) {
                x.waits(p, (p + 1) % many);
            }
            rings("a ring of " + many, x, many, (1 << many) - 1, 1, 1);
        }
    }

    private static void stuck() {
        Doc.says("STUCK: those who need somebody who is in a RING, or needs such a one, and so on, or are in one.");
        AfterTheLast x = Check.with("house free 12 0;house free 12 0");
        // 0 for 1 for 2 and so on to 9; 10 and 9 for one another, 11 for nobody
        for (int p = 0; p < 12; p++) {
            x.come(p, p % 2);
        }
        for (int p = 0; p < 10; p++) {
            x.waits(p, p + 1);
        }
        rings("no ring", x, 0, 0, 0, 0);
        x.waits(10, 9);
        rings("all who need them, far off too", x, 2, (1 << 11) - 1, 1 << 9, 1);
        x.waits(4, -1);
        rings("one of them needs nobody", x, 2, (1 << 11) - (1 << 5), 1 << 9, 1);
        x.waits(9, 8);
        x.waits(10, -1);
        rings("8 and 9", x, 2, (1 << 10) - (1 << 5), 1 << 8, 1);
    }

    private static void undone() {
        Doc.says("UNDONE: the fewest PEOPLE who would go by a window (out, and waiting for nobody) so that there is no RING (windows not counted); of several the least set.");
        AfterTheLast x = Check.with("house free 12 0;house free 12 0");
        for (int p = 0; p < 12; p++) {
            x.come(p, p % 2);
        }
        int pairs = 0;
        for (int p = 0; p < 12; p += 2) {
            x.waits(p, p + 1);
            x.waits(p + 1, p);
            pairs |= 1 << p;
            rings("rings of two: " + (p / 2 + 1), x, 2, (1 << p + 2) - 1, pairs, p / 2 + 1);
        }
        Check.is("no window is used", x.count(7), 12);
        AfterTheLast y = Check.with("house last 12 0;house free 12 0");
        // 0 needs 1, 2 and 3; 5 waits for 0, and 3 for 5: without 3, or 0, or 5, there is no ring
        for (int p = 0; p < 4; p++) {
            y.come(p, 0);
        }
        y.come(5, 1);
        y.waits(3, 5);
        y.waits(5, 0);
        rings("the least of several", y, 3, 15 + 32, 1, 1);
        y.waits(1, 5);
        rings("0 is in both", y, 3, 15 + 32, 1, 1);
        y.waits(5, 1);
        // 1 and 5; 1, 3 and 5: without 1 or 5
        rings("1 is in both", y, 2, 15 + 32, 2, 1);
    }

    private static void refusedRings() {
        Doc.says("What 0: how long the shortest RING is (0: none), 1: STUCK, as bits, 2: UNDONE, as bits, 3: how many UNDONE are. NONE for others.");
        for (int what : new int[] {-1, 4, Integer.MAX_VALUE, Integer.MIN_VALUE}) {
            Twins.leave("rings " + what, Twins::some, x -> x.rings(what), -1);
            Twins.leave("rings " + what + " of nobody", x -> { }, x -> x.rings(what), -1);
        }
        // 0 (house 0) waits for 1 (house 1), who came first by the law first; 8 behind him waits for 0
        int[] due = {2, 1 + 2 + 256, 1, 1};
        for (int what = 0; what < 4; what++) {
            int w = what;
            Twins.leave("rings " + what, Twins::some, x -> x.rings(w), 0);
            Twins.leave("rings " + what, x -> { Twins.some(x); x.waits(1, 0); }, x -> x.rings(w), due[what]);
        }
    }

    private static void worths() {
        Doc.says("Worth of going of one becomes n: what it was; NONE, and nothing happens, without these.");
        Doc.says("each has a worth of going (0 to 99, told; 0 at first)");
        AfterTheLast x = new AfterTheLast();
        for (int p = 0; p < 12; p++) {
            Check.is("0 at first", x.worth(p, 99), 0);
            Check.is("99 then", x.worth(p, 0), 99);
            Check.is("0 then", x.worth(p, p), 0);
        }
        for (int p = 0; p < 12; p++) {
            Check.is("each his own", x.person(p, 5), p);
        }
    }

    private static void refusedWorths() {
        int[][] none = {{-1, 0}, {12, 0}, {0, -1}, {0, 100}, {12, 100}, {Integer.MAX_VALUE, 1}, {Integer.MIN_VALUE, 1},
            {0, Integer.MAX_VALUE}, {0, Integer.MIN_VALUE}};
        for (int[] ask : none) {
            Twins.leave("worth " + ask[0] + ", " + ask[1], Twins::some, x -> x.worth(ask[0], ask[1]), -1);
        }
    }

    private static void asks() {
        Doc.says("ASKS of a HOUSE by the law last: what the last can ask: the others' worths together");
        Doc.says("ASKS; NONE without that HOUSE (0: not the law last, or nobody is there).");
        AfterTheLast x = Check.with("house last 12 0;house first 12 0;house free 12 0");
        for (int p = 0; p < 12; p++) {
            x.worth(p, 99);
        }
        Check.is("nobody is there", x.asks(0), 0);
        for (int p = 0; p < 12; p++) {
            x.come(p, 0);
            Check.is("the others' worths", x.asks(0), 99 * p);
        }
        x.worth(11, 0);
        Check.is("his own is nothing to him", x.asks(0), 99 * 11);
        x.worth(0, 0);
        Check.is("another one's is", x.asks(0), 99 * 10);
        Check.is("nobody is there", x.asks(1), 0);
        for (int p = 11; p >= 0; p--) {
            x.go(p, false);
            x.come(p, 1 + p % 2);
        }
        Check.is("by the law first", x.asks(1), 0);
        Check.is("by the law free", x.asks(2), 0);
        Check.is("nobody is there any more", x.asks(0), 0);
    }

    private static void refusedAsks() {
        for (int house : new int[] {-1, 3, 6, Integer.MAX_VALUE, Integer.MIN_VALUE}) {
            Twins.leave("asks " + house, Twins::some, x -> x.asks(house), -1);
        }
        // 0 (worth 5) and 2 (worth 31) are there ahead of 7
        Twins.leave("asks 0", Twins::some, x -> x.asks(0), 36);
        Twins.leave("asks 1", Twins::some, x -> x.asks(1), 0);
        Check.is("without a street", new AfterTheLast().asks(0), -1);
    }
}

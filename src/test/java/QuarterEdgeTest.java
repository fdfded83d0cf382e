/** The boundary cases of promises 11 (tick), 12 (ahead), 13 (bestRule), and of a quarter by a rule. */
public final class QuarterEdgeTest {
    public static void main(String[] args) {
        tillIsNotAboveNow();
        againTillNobodyGoes();
        byTheirNumbers();
        notByHand();
        oneByHandInTheWay();
        someTestOrNone();
        byWindows();
        asFarAsThereAreWindows();
        fromIsNotAboveNow();
        theFirstOfTheirStays();
        room();
        late();
        whoComesIsNotAskedToGo();
        ticks();
        refusedTicks();
        tickWithoutPeople();
        aheads();
        refusedAheads();
        aheadIsLikeTick();
        bestRules();
        Check.done();
    }

    /** A street with stays of 0, 1, 2 and so on from 0 till 1 in house 0. */
    private static String allTill1(String house, int people) {
        StringBuilder b = new StringBuilder("house ").append(house);
        for (int p = 0; p < people; p++) {
            b.append(";stay ").append(p).append(" 0 0 1 0");
        }
        return b.toString();
    }

    private static AfterTheLast with(String street, String rule) {
        AfterTheLast x = Check.with(street);
        Check.is("rule " + rule, Check.rule(x, rule), 0);
        return x;
    }

    private static void tillIsNotAboveNow() {
        Doc.says("who is in a HOUSE for a STAY (not by hand) whose till is not above NOW, for whom no hold TEST holds, and who MAY go, goes");
        for (int till : new int[] {1, 2, 50, 94, 95}) {
            AfterTheLast x = with("house free 1 0;stay 4 0 0 " + till + " 0", "come 1=1");
            x.tick(0, till);
            Check.is("there till " + till, x.person(4, 0), 0);
            x.tick(0, 1);
            Check.is("gone at " + till, x.person(4, 0), -1);
            Check.is("not late", x.count(4), 0);
        }
    }

    private static void againTillNobodyGoes() {
        Doc.says("A QUARTER by a RULE: (1) again and again, till nobody goes any more: the first of PEOPLE, by their numbers");
        for (String law : new String[] {"last", "first", "free"}) {
            AfterTheLast x = with(allTill1(law + " 12 0", 12), "come 1=1");
            x.tick(0, 1);
            Check.is(law + ": all twelve", x.count(7), 12);
            x.tick(0, 1);
            Check.is(law + ": nobody", x.count(7), 0);
            Check.is(law + ": nobody late", x.count(4), 0);
            Check.is(law + ": all were served", x.count(5), 12);
        }
        AfterTheLast x = with(allTill1("last 12 0", 12), "hold person=5");
        x.tick(0, 2);
        Check.is("0 to 5 are there: 5 is held, the others may not", x.house(0, 3), 6);
        Check.is("5 is the last", x.house(0, 4), 5);
        Check.is("late", x.count(4), 6);
        AfterTheLast y = with(allTill1("first 12 0", 12), "hold person=5");
        y.tick(0, 2);
        Check.is("5 to 11 are there", y.house(0, 3), 7);
        Check.is("5 is the first", y.house(0, 5), 5);
        AfterTheLast z = with(allTill1("free 12 0", 12), "hold person=5");
        z.tick(0, 2);
        Check.is("5 alone is there", z.house(0, 3), 1);
    }

    private static void byTheirNumbers() {
        // who goes is seen by how many are inside when he is asked: 0 first, with three inside, and so on
        AfterTheLast x = with(allTill1("free 3 0", 3), "hold not [person=0 and inside=3 or person=1 and inside=2 or person=2 and inside=1]");
        x.tick(0, 2);
        Check.is("0, 1, 2", x.count(7), 0);
        AfterTheLast y = with(allTill1("free 3 0", 3), "hold not [person=1 and inside=3 or person=0 and inside=2 or person=2 and inside=1]");
        y.tick(0, 2);
        Check.is("1, then 0 again, 2", y.count(7), 0);
        AfterTheLast z = with(allTill1("free 3 0", 3), "hold not [person=2 and inside=3 or person=1 and inside=1 or person=0 and inside=2]");
        z.tick(0, 2);
        Check.is("2, 0, 1", z.count(7), 0);
        AfterTheLast w = with(allTill1("free 3 0", 3), "hold not [person=0 and inside=3 or person=1 and inside=3]");
        w.tick(0, 2);
        Check.is("0 alone: then there are two inside", w.count(7), 2);
        Check.is("1 is there", w.person(1, 0), 0);
    }

    private static void notByHand() {
        AfterTheLast x = with("house free 3 9;stay 0 0 0 1 0", "window 1=1");
        x.come(0, 0);
        x.come(1, 0);
        Check.is("96", x.tick(0, 96), 96);
        Check.is("both are there", x.count(7), 2);
        Check.is("nobody late", x.count(4), 0);
        Check.is("no window used", x.house(0, 2), 9);
        Check.is("nobody served", x.count(5), 0);
        Check.is("missed", x.count(6), 1);
    }

    private static void oneByHandInTheWay() {
        AfterTheLast x = with("house last 3 0;stay 0 0 0 2 0", "come 1=1");
        x.tick(0, 1);
        x.come(5, 0);
        x.tick(0, 3);
        Check.is("he may not go", x.person(0, 0), 0);
        Check.is("late at 2 and 3", x.count(4), 2);
        x.go(5, false);
        x.tick(0, 1);
        Check.is("then he may", x.person(0, 0), -1);
        Check.is("late as before", x.count(4), 2);
        AfterTheLast y = with("house first 3 0;stay 0 0 0 2 0", "come 1=1");
        y.tick(0, 1);
        y.come(5, 0);
        y.tick(0, 2);
        Check.is("by the law first he may", y.person(0, 0), -1);
    }

    private static void someTestOrNone() {
        Doc.says("if there is room, and some come TEST holds, or there is none: they come (the STAY is begun)");
        String street = "house free 1 1;stay 0 0 0 1 0";
        Check.is("no come test", with(street, "hold 1=1").ahead(0, 1, 2), 1);
        Check.is("no come test", with(street, "window 1=1").ahead(0, 1, 2), 1);
        Check.is("one that does not hold", with(street, "come 1=2").ahead(0, 1, 2), 0);
        Check.is("one of several", with(street, "come 1=2;come 1=1;come 1=3").ahead(0, 1, 2), 1);
        Check.is("the last of several", with(street, "come 1=2;hold 1=1;come 1=1").ahead(0, 1, 2), 1);
        Check.is("none of several", with(street, "come 1=2;hold 1=1;come 1=3").ahead(0, 1, 2), 0);
        Check.is("a window test is no come test", with(street, "come 1=2;window 1=1").ahead(0, 1, 2), 0);
        Check.is("no hold test: he goes", with(street, "come 1=1").ahead(0, 2, 0), 0);
        Check.is("one that does not hold", with(street, "hold 1=2").ahead(0, 2, 0), 0);
        Check.is("one of several", with(street, "hold 1=2;hold 1=1").ahead(0, 2, 0), 1);
        Check.is("no window test: he is held", with(street, "hold 1=1;come 1=1").ahead(0, 2, 3), 1);
        Check.is("one that does not hold", with(street, "hold 1=1;window 1=2").ahead(0, 2, 3), 1);
        Check.is("one of several", with(street, "hold 1=1;window 1=2;window 1=1").ahead(0, 2, 3), 0);
    }

    private static void byWindows() {
        Doc.says("(2) PEOPLE, by their numbers, who are so in a HOUSE for a STAY whose till is not above NOW, and for whom some window TEST holds (and there is a window left): they go by it");
        AfterTheLast x = with("house last 3 9;stay 0 0 0 2 0;stay 1 0 0 9 0", "window 1=1");
        x.tick(0, 2);
        Check.is("till is above NOW", x.house(0, 2), 9);
        x.tick(0, 1);
        Check.is("till is NOW", x.person(0, 0), -1);
        Check.is("by a window: he may not go", x.house(0, 2), 8);
        Check.is("till of the other one is above NOW", x.person(1, 0), 0);
        Check.is("nobody late", x.count(4), 0);
        x.tick(0, 7);
        Check.is("who may go goes by the door", x.house(0, 2), 8);
        Check.is("nobody", x.count(7), 0);
    }

    private static void asFarAsThereAreWindows() {
        for (int windows = 0; windows <= 9; windows++) {
            AfterTheLast x = with(allTill1("first 12 " + windows, 12), "hold 1=1;window 1=1");
            x.tick(0, 2);
            Check.is("as many as windows", x.count(7), 12 - windows);
            Check.is("the first ones", x.house(0, 5), windows);
            Check.is("no window left", x.house(0, 2), 0);
            Check.is("late: the others", x.count(4), 12 - windows);
            x.tick(0, 1);
            Check.is("nobody goes without a window", x.count(7), 12 - windows);
        }
    }

    private static void fromIsNotAboveNow() {
        Doc.says("(3) PEOPLE, by their numbers, who are outside: the first of their STAYS that was not begun, and whose from is not above NOW, and till is");
        for (int from : new int[] {0, 1, 50, 93, 94}) {
            AfterTheLast x = with("house free 1 0;stay 4 0 " + from + " 95 0", "come 1=1");
            Check.is("not ahead of from " + from, x.ahead(0, from, 2), 0);
            Check.is("at from " + from, x.ahead(0, from + 1, 2), 1);
        }
        for (int till : new int[] {1, 2, 50, 95}) {
            AfterTheLast x = with("house free 1 0;stay 4 0 0 " + till + " 0", "come now >= " + (till - 1));
            Check.is("the quarter ahead of till " + till, x.ahead(0, till, 2), 1);
            AfterTheLast y = with("house free 1 0;stay 4 0 0 " + till + " 0", "come now >= " + till);
            Check.is("not at till " + till, y.ahead(0, 96, 2), 0);
        }
    }

    private static void theFirstOfTheirStays() {
        AfterTheLast x = with("house free 1 0;house free 1 0;stay 4 0 0 9 0;stay 4 1 0 9 0", "come 1=1");
        x.tick(0, 1);
        Check.is("the first one told", x.person(4, 1), 0);
        x.go(4, false);
        x.tick(0, 1);
        Check.is("begun: then the next one", x.person(4, 1), 1);
        x.go(4, false);
        x.tick(0, 1);
        Check.is("all begun", x.person(4, 0), -1);
        AfterTheLast y = with("house free 1 0;house free 1 0;stay 4 0 2 9 0;stay 4 1 0 2 0", "come 1=1");
        y.tick(0, 1);
        Check.is("from of the first one is above NOW", y.person(4, 1), 1);
        y.tick(0, 2);
        Check.is("out at 2 and in for the other one", y.person(4, 1), 0);
        AfterTheLast z = with("house free 1 0;house free 1 0;stay 4 0 0 9 0;stay 4 1 0 9 0", "come house=1");
        z.tick(0, 9);
        Check.is("the first of them alone is tried", z.count(5), 0);
        AfterTheLast w = with("house free 1 0;house free 1 0;stay 4 0 0 2 0;stay 4 1 0 9 0", "come house=1");
        w.tick(0, 3);
        Check.is("when its till has come, the next one", w.person(4, 1), 1);
    }

    private static void room() {
        for (int room = 1; room <= 12; room++) {
            StringBuilder b = new StringBuilder("house last " + room + " 0");
            for (int p = 11; p >= 0; p--) {
                b.append(";stay ").append(p).append(" 0 0 9 0");
            }
            AfterTheLast x = with(b.toString(), "come 1=1");
            x.tick(0, 1);
            Check.is("as many as there is room", x.count(7), room);
            Check.is("by their numbers", x.house(0, 4), room - 1);
            x.tick(0, 8);
            Check.is("no more", x.count(5), room);
            Check.is("the others missed", x.count(6), 12 - room);
        }
        AfterTheLast y = with("house last 1 0;stay 0 0 0 9 0", "come 1=1");
        y.come(5, 0);
        y.tick(0, 1);
        Check.is("one by hand takes the room", y.count(5), 0);
    }

    private static void late() {
        Doc.says("LATE is more by one for each who is then in a HOUSE for a STAY whose till is not above NOW. NOW is 1 more.");
        AfterTheLast x = with(allTill1("free 12 0", 12), "hold 1=1");
        for (int now = 1; now <= 96; now++) {
            Check.is("NOW is 1 more", x.tick(0, 1), now);
            Check.is("late", x.count(4), 12 * (now - 1));
        }
        AfterTheLast y = with("house free 12 9;stay 0 0 0 95 0", "hold 1=1");
        y.tick(0, 95);
        Check.is("not ahead of 95", y.count(4), 0);
        y.tick(0, 1);
        Check.is("at 95", y.count(4), 1);
    }

    private static void whoComesIsNotAskedToGo() {
        // at 4 he goes for one stay and comes for the next: from of it is NOW
        AfterTheLast x = with("house free 1 0;stay 0 0 0 4 0;stay 0 0 4 5 0;stay 0 0 5 6 0", "come 1=1");
        x.tick(0, 4);
        Check.is("the first", x.person(0, 1), 0);
        x.tick(0, 1);
        Check.is("the second", x.person(0, 1), 1);
        x.tick(0, 1);
        Check.is("the third", x.person(0, 1), 2);
        x.tick(0, 1);
        Check.is("none", x.person(0, 1), -1);
        Check.is("never late", x.count(4), 0);
    }

    private static void ticks() {
        Doc.says("So many QUARTERS (1 to 96) by a RULE: NOW");
        for (int n : new int[] {1, 2, 48, 95, 96}) {
            AfterTheLast x = with("house free 1 0", "come 1=1");
            Check.is("tick " + n, x.tick(0, n), n);
            Check.is("now", x.count(3), n);
            if (n < 96) {
                Check.is("one too many", x.tick(0, 97 - n), -1);
                Check.is("up to 96", x.tick(0, 96 - n), 96);
            }
            Check.is("not above 96", x.tick(0, 1), -1);
        }
    }

    private static void refusedTicks() {
        Doc.says("NONE, and nothing happens, without these, or if it would be above 96.");
        int[][] none = {{2, 1}, {-1, 1}, {6, 1}, {Integer.MAX_VALUE, 1}, {Integer.MIN_VALUE, 1}, {0, 0}, {0, -1}, {0, 97}, {0, 94},
            {0, Integer.MAX_VALUE}, {0, Integer.MIN_VALUE}, {5, 1}};
        for (int[] ask : none) {
            Twins.leave("tick " + ask[0] + ", " + ask[1], Twins::some, x -> x.tick(ask[0], ask[1]), -1);
        }
        Twins.leave("at 96", x -> { Twins.some(x); x.tick(1, 93); }, x -> x.tick(1, 1), -1);
        AfterTheLast y = new AfterTheLast();
        Twins.some(y);
        Check.is("93 more are not too many", y.tick(0, 93), 96);
    }

    private static void tickWithoutPeople() {
        AfterTheLast x = new AfterTheLast();
        Check.is("no rule", x.tick(0, 1), -1);
        Check.rule(x, "come 1=1");
        Check.is("without a street", x.tick(0, 5), 5);
        Check.is("late", x.count(4), 0);
        Check.is("inside", x.ahead(0, 91, 0), 0);
        Check.is("windows", x.ahead(0, 91, 3), 0);
        Check.is("the best", x.bestRule(), 0);
        Check.is("nobody inside", x.evenings(0, 20, 2), 20);
    }

    private static void aheads() {
        Doc.says("AHEAD (n 0 to 96, NOW not above 96) what 0: inside, 1: LATE (of these QUARTERS alone), 2: SERVED, 3: windows; NONE without these.");
        AfterTheLast x = with("house last 3 2;house free 3 3;stay 0 0 0 2 0;stay 1 0 1 4 0", "window late=1");
        // 0 comes at 0; 1 comes at 1; at 2 neither may 0 go nor is there a window for him; at 3 he goes by it; at 4 goes 1
        int[][] due = {{0, 0, 0, 5}, {1, 0, 1, 5}, {2, 0, 2, 5}, {2, 1, 2, 5}, {1, 1, 2, 4}, {0, 1, 2, 4}, {0, 1, 2, 4}};
        for (int n = 0; n < 7; n++) {
            for (int what = 0; what < 4; what++) {
                Check.is("ahead " + n + ", " + what, x.ahead(0, n, what), due[n][what]);
            }
        }
        Check.is("96 quarters", x.ahead(0, 96, 3), 4);
        x.tick(0, 3);
        Check.is("late so far", x.count(4), 1);
        Check.is("of these quarters alone", x.ahead(0, 93, 1), 0);
        Check.is("all served so far", x.ahead(0, 0, 2), 2);
        x.tick(0, 93);
        for (int what = 0; what < 4; what++) {
            Check.is("at 96, ahead 0, " + what, x.ahead(0, 0, what), due[6][what] - (what == 1 ? 1 : 0));
            Check.is("at 96, ahead 1, " + what, x.ahead(0, 1, what), -1);
        }
    }

    private static void refusedAheads() {
        int[][] none = {{2, 1, 0}, {-1, 1, 0}, {6, 0, 0}, {Integer.MAX_VALUE, 1, 0}, {Integer.MIN_VALUE, 1, 0}, {0, -1, 0}, {0, 94, 0},
            {0, 97, 0}, {0, Integer.MAX_VALUE, 0}, {0, Integer.MIN_VALUE, 0}, {0, 1, -1}, {0, 1, 4}, {0, 1, Integer.MAX_VALUE},
            {0, 1, Integer.MIN_VALUE}, {2, 97, 4}};
        for (int[] ask : none) {
            Twins.leave("ahead " + ask[0] + ", " + ask[1] + ", " + ask[2], Twins::some, x -> x.ahead(ask[0], ask[1], ask[2]), -1);
        }
        AfterTheLast x = new AfterTheLast();
        Check.is("no rules", x.ahead(0, 0, 0), -1);
        AfterTheLast y = new AfterTheLast();
        Twins.some(y);
        // 7, 8 and 9 are there by hand, 0 and 2 can't go ahead of 7
        Check.is("93 are not too many", y.ahead(0, 93, 0), 5);
    }

    private static void aheadIsLikeTick() {
        Doc.says("AHEAD of n QUARTERS by a RULE (nothing changes): PEOPLE inside, LATE, SERVED, windows left together.");
        for (int rule = 0; rule < 2; rule++) {
            for (int n = 1; n <= 93; n += 4) {
                AfterTheLast x = new AfterTheLast();
                Twins.some(x);
                int late = x.count(4);
                int[] ahead = new int[4];
                for (int what = 0; what < 4; what++) {
                    ahead[what] = x.ahead(rule, n, what);
                }
                x.tick(rule, n);
                Check.is("inside", ahead[0], x.count(7));
                Check.is("late", ahead[1], x.count(4) - late);
                Check.is("served", ahead[2], x.count(5));
                Check.is("windows", ahead[3], x.house(0, 2) + x.house(1, 2) + x.house(2, 2));
            }
        }
        for (int what = 0; what < 4; what++) {
            int w = what;
            AfterTheLast x = new AfterTheLast();
            Twins.some(x);
            Twins.leave("ahead", Twins::some, y -> y.ahead(1, 93, w), x.ahead(1, 93, what));
        }
    }

    private static void bestRules() {
        Doc.says("BEST RULE: behind QUARTER 95 from now on the fewest LATE, of these the most SERVED, of several the least.");
        Doc.says("BEST RULE; -2: there are none.");
        Twins.leave("without rules", x -> { }, AfterTheLast::bestRule, -2);
        AfterTheLast x = Check.with("house free 3 0;stay 0 0 0 95 0;stay 1 0 50 60 0");
        Check.rule(x, "hold 1=1");
        Check.rule(x, "hold now=95");
        Check.is("one late at 95, and 36 more", x.bestRule(), 1);
        Check.rule(x, "come person=1");
        Check.is("none late, though fewer served", x.bestRule(), 2);
        Check.rule(x, "come person=0");
        Check.is("as many served: the least", x.bestRule(), 2);
        Check.rule(x, "come 1=1");
        Check.is("none late, and both served", x.bestRule(), 4);
        Check.rule(x, "come 2=2");
        Check.is("of several the least", x.bestRule(), 4);
        x.tick(0, 95);
        // 0 and 1 are there: 0 is late at 95 by the rules that hold him
        Check.is("of the last quarter alone", x.bestRule(), 2);
        x.tick(0, 1);
        Check.is("of no quarter at all", x.bestRule(), 0);
        AfterTheLast z = new AfterTheLast();
        Twins.some(z);
        Twins.leave("bestRule", Twins::some, AfterTheLast::bestRule, z.bestRule());
    }
}

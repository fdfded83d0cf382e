/** The boundary cases of promises 18 (wishes) and 19 (plan). */
public final class PlanEdgeTest {
    public static void main(String[] args) {
        eachNumberOfAWish();
        longAndTime();
        sixWishes();
        noneThen();
        withoutWishes();
        atTheLimits();
        ofOneHouseAtTheEdge();
        ofOnePersonAtTheEdge();
        noPlan();
        oneMillion();
        refusedPlans();
        Check.done();
    }

    private static void refused(String name, int p, int h, int f, int t, int d) {
        Twins.leave("wishes: " + name, Twins::some, x -> x.wishes(p, h, f, t, d), -2);
    }

    private static void told(int p, int h, int f, int t, int d) {
        AfterTheLast x = new AfterTheLast();
        String name = "wishes " + p + " " + h + " " + f + " " + t + " " + d;
        Check.is(name, x.wishes(p, h, f, t, d), 1);
        Check.is(name + ": how many", x.count(8), 1);
        Check.is(name + ": plans", x.plan(6), t - f - d + 1);
        Check.is(name + ": begins", x.plan(0), f);
    }

    private static void eachNumberOfAWish() {
        Doc.says("A PLAN: WISHES 0 to 5: a person, a HOUSE number (0 to 5), from, till (as of STAYS), long (1 and above; till less from is long to 11 more).");
        told(0, 0, 0, 1, 1);
        told(11, 5, 94, 95, 1);
        told(11, 0, 0, 95, 95);
        told(0, 5, 0, 95, 84);
        refused("person 12", 12, 0, 0, 1, 1);
        refused("person -2", -2, 0, 0, 1, 1);
        refused("the greatest person", Integer.MAX_VALUE, 0, 0, 1, 1);
        refused("the least person", Integer.MIN_VALUE, 0, 0, 1, 1);
        refused("house 6", 0, 6, 0, 1, 1);
        refused("house -1", 0, -1, 0, 1, 1);
        refused("the greatest house", 0, Integer.MAX_VALUE, 0, 1, 1);
        refused("from -1", 0, 0, -1, 1, 1);
        refused("from 95", 0, 0, 95, 95, 1);
        refused("from 96", 0, 0, 96, 97, 1);
        refused("the least from", 0, 0, Integer.MIN_VALUE, 1, 1);
        refused("till 96", 0, 0, 95, 96, 1);
        refused("till as from", 0, 0, 5, 5, 1);
        refused("till as from, long 0", 0, 0, 5, 5, 0);
        refused("till below from", 0, 0, 5, 4, 1);
        refused("the greatest till", 0, 0, 5, Integer.MAX_VALUE, 1);
        AfterTheLast x = Check.with("house free 1 0");
        Check.is("a house number, told or not", x.wishes(0, 5, 0, 1, 1), 1);
    }

    private static void longAndTime() {
        for (int time = 1; time <= 95; time++) {
            for (int d = Math.max(1, time - 13); d <= time + 2; d++) {
                AfterTheLast x = new AfterTheLast();
                boolean can = d <= time && time - d <= 11;
                Check.is("long " + d + " in " + time, x.wishes(0, 0, 95 - time, 95, d), can ? 1 : -2);
                Check.is("how many", x.count(8), can ? 1 : 0);
            }
        }
        refused("long 0", 0, 0, 0, 5, 0);
        refused("long -1", 0, 0, 0, 5, -1);
        refused("the least long", 0, 0, 0, 5, Integer.MIN_VALUE);
        refused("the greatest long", 0, 0, 0, 5, Integer.MAX_VALUE);
        refused("longer than the time", 0, 0, 0, 5, 6);
        refused("12 less than the time", 0, 0, 0, 13, 1);
    }

    private static void sixWishes() {
        Doc.says("A WISH (person NONE: there are none then): how many; -2, and nothing happens, for others, or if there are 6.");
        AfterTheLast x = new AfterTheLast();
        for (int i = 1; i <= 6; i++) {
            Check.is("how many", x.wishes(0, 0, 0, 1, 1), i);
            Check.is("count", x.count(8), i);
        }
        Check.is("a seventh", x.wishes(0, 0, 0, 1, 1), -2);
        Check.is("six", x.count(8), 6);
        Twins.leave("a seventh", y -> {
            Twins.some(y);
            for (int i = 0; i < 4; i++) {
                y.wishes(i, i, 0, 5, 2);
            }
        }, y -> y.wishes(7, 5, 0, 1, 1), -2);
        Check.is("none then", x.wishes(-1, 0, 0, 1, 1), 0);
        Check.is("one again", x.wishes(0, 0, 0, 1, 1), 1);
    }

    private static void noneThen() {
        AfterTheLast x = new AfterTheLast();
        Check.is("none of none", x.wishes(-1, 0, 0, 0, 0), 0);
        x.wishes(0, 0, 0, 1, 1);
        Check.is("whatever else", x.wishes(-1, 99, -5, Integer.MIN_VALUE, Integer.MAX_VALUE), 0);
        Check.is("count", x.count(8), 0);
        Check.is("no wish 0", x.plan(0), -1);
        Twins.same("none is as if none had been told", y -> { Twins.some(y); y.wishes(-1, 0, 0, 0, 0); y.wishes(1, 1, 1, 9, 3); },
            y -> { Twins.some(y); y.wishes(-1, 0, 0, 0, 0); y.wishes(2, 2, 2, 4, 2); y.wishes(-1, 1, 1, 1, 1); y.wishes(1, 1, 1, 9, 3); });
    }

    private static void withoutWishes() {
        Doc.says("The first PLAN, when a WISH begins (what 0 to 5), 6: how many PLANS (1 without WISHES). -2: there is none (0 to 5); NONE without these.");
        AfterTheLast x = new AfterTheLast();
        Check.is("how many", x.plan(6), 1);
        for (int what = 0; what < 6; what++) {
            Check.is("wish " + what, x.plan(what), -1);
        }
    }

    private static void atTheLimits() {
        Doc.says("Each begins at a QUARTER from its from on and ends long later, not behind its till;");
        for (int more = 0; more <= 11; more++) {
            AfterTheLast x = new AfterTheLast();
            x.wishes(0, 0, 80 - more, 95, 15);
            Check.is("it can begin at " + (more + 1), x.plan(6), more + 1);
            Check.is("its from first", x.plan(0), 80 - more);
        }
        AfterTheLast y = new AfterTheLast();
        for (int i = 0; i < 6; i++) {
            y.wishes(i, i, 10 * i, 10 * i + 9, 9);
        }
        Check.is("one plan", y.plan(6), 1);
        for (int i = 0; i < 6; i++) {
            Check.is("wish " + i, y.plan(i), 10 * i);
        }
    }

    /** How many plans there are of two that have no choice. */
    private static int plans(int person, int house, int from, int till) {
        AfterTheLast x = new AfterTheLast();
        x.wishes(0, 0, 3, 6, 3);
        x.wishes(person, house, from, till, till - from);
        return x.plan(6);
    }

    private static void ofOneHouseAtTheEdge() {
        Doc.says("WISHES of one HOUSE don't CROSS (law last)");
        int[][] both = {{0, 3, 1}, {0, 4, 0}, {0, 5, 0}, {0, 6, 1}, {0, 7, 1}, {2, 4, 0}, {2, 6, 1}, {2, 7, 1}, {3, 4, 1}, {3, 6, 1},
            {3, 7, 1}, {4, 5, 1}, {4, 6, 1}, {4, 7, 0}, {5, 7, 0}, {6, 7, 1}, {7, 8, 1}};
        for (int[] two : both) {
            Check.is("of one house: 3 to 6 and " + two[0] + " to " + two[1], plans(1, 0, two[0], two[1]), two[2]);
            Check.is("of two houses: 3 to 6 and " + two[0] + " to " + two[1], plans(1, 1, two[0], two[1]), 1);
        }
    }

    private static void ofOnePersonAtTheEdge() {
        Doc.says("of one person do not overlap (the one ends not behind the other one's begin)");
        int[][] both = {{0, 3, 1}, {0, 4, 0}, {0, 6, 0}, {0, 7, 0}, {3, 4, 0}, {3, 6, 0}, {4, 5, 0}, {4, 7, 0}, {5, 6, 0}, {5, 7, 0},
            {6, 7, 1}, {7, 8, 1}, {2, 3, 1}};
        for (int[] two : both) {
            Check.is("in one house: 3 to 6 and " + two[0] + " to " + two[1], plans(0, 0, two[0], two[1]), two[2]);
            Check.is("in two houses: 3 to 6 and " + two[0] + " to " + two[1], plans(0, 1, two[0], two[1]), two[2]);
        }
    }

    private static void noPlan() {
        AfterTheLast x = new AfterTheLast();
        x.wishes(0, 0, 0, 2, 2);
        x.wishes(0, 0, 1, 3, 2);
        Check.is("how many", x.plan(6), 0);
        Check.is("wish 0", x.plan(0), -2);
        Check.is("wish 1", x.plan(1), -2);
        Check.is("no wish 2", x.plan(2), -1);
        for (int i = 2; i < 6; i++) {
            x.wishes(i, i, 0, 12, 1);
            Check.is("how many", x.plan(6), 0);
            Check.is("wish " + i, x.plan(i), -2);
        }
    }

    private static void oneMillion() {
        Doc.says("The first of all plans (by WISHES, the earlier begin first); how many there are (1000000 at most).");
        // 10 to the sixth, and a little more and less
        AfterTheLast x = new AfterTheLast();
        for (int i = 0; i < 6; i++) {
            x.wishes(i, i, 0, 10, 1);
        }
        Check.is("a million", x.plan(6), 1000000);
        AfterTheLast more = new AfterTheLast();
        for (int i = 0; i < 6; i++) {
            more.wishes(i, i, 0, i == 3 ? 11 : 10, 1);
        }
        Check.is("more than a million", more.plan(6), 1000000);
        AfterTheLast less = new AfterTheLast();
        for (int i = 0; i < 6; i++) {
            less.wishes(i, i, 0, i == 3 ? 9 : 10, 1);
        }
        Check.is("less", less.plan(6), 900000);
        AfterTheLast all = new AfterTheLast();
        for (int i = 0; i < 6; i++) {
            all.wishes(i, i, 0, 12, 1);
        }
        Check.is("12 to the sixth", all.plan(6), 1000000);
        // six of one person side by side, in any order
        AfterTheLast tight = new AfterTheLast();
        for (int i = 0; i < 6; i++) {
            tight.wishes(0, 0, 0, 6, 1);
        }
        Check.is("all the orders of six", tight.plan(6), 720);
        for (int i = 0; i < 6; i++) {
            Check.is("wish " + i, tight.plan(i), i);
        }
        AfterTheLast five = new AfterTheLast();
        for (int i = 0; i < 6; i++) {
            five.wishes(0, 0, 0, 5, 1);
        }
        Check.is("six in five places", five.plan(6), 0);
        // the first one gives way only as far as it must
        AfterTheLast last = new AfterTheLast();
        last.wishes(0, 0, 0, 12, 1);
        for (int i = 0; i < 5; i++) {
            last.wishes(0, 1, i, i + 1, 1);
        }
        Check.is("the first one behind five others", last.plan(0), 5);
        Check.is("the last one", last.plan(5), 4);
        Check.is("how many", last.plan(6), 7);
    }

    private static void refusedPlans() {
        for (int what : new int[] {-1, 7, 2, 5, Integer.MAX_VALUE, Integer.MIN_VALUE}) {
            Twins.leave("plan " + what, Twins::some, x -> x.plan(what), -1);
        }
        // 10 to 20, 5 long, and 12 to 20, 6 long, in one house: 12 and 12, 13 and 13, 14 and 14, and one within the other
        AfterTheLast x = new AfterTheLast();
        Twins.some(x);
        for (int what : new int[] {0, 1, 6}) {
            Twins.leave("plan " + what, Twins::some, y -> y.plan(what), x.plan(what));
        }
        Check.is("the first one begins", x.plan(0), 12);
        Check.is("the second one begins", x.plan(1), 12);
        Check.is("12 12, 13 12, 13 13, 14 13, 14 14, 15 14", x.plan(6), 6);
    }
}

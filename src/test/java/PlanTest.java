/** Promises 18 (wishes) and 19 (plan). */
public final class PlanTest {
    public static void main(String[] args) {
        telling();
        noWishes();
        oneWish();
        ofOnePerson();
        ofOneHouse();
        noPlan();
        theFirst();
        manyPlans();
        wishesOfBefore();
        Check.done();
    }

    private static void refused(String name, int p, int h, int f, int t, int d) {
        AfterTheLast x = new AfterTheLast();
        x.wishes(1, 1, 1, 2, 1);
        String was = Check.state(x);
        Check.is(name, x.wishes(p, h, f, t, d), -2);
        Check.same(name, x, was);
    }

    private static void telling() {
        refused("person 12", 12, 0, 0, 5, 3);
        refused("person -2", -2, 0, 0, 5, 3);
        refused("house 6", 0, 6, 0, 5, 3);
        refused("house -1", 0, -1, 0, 5, 3);
        refused("from -1", 0, 0, -1, 5, 3);
        refused("till 96", 0, 0, 90, 96, 3);
        refused("till as from", 0, 0, 5, 5, 1);
        refused("till below from", 0, 0, 5, 4, 1);
        refused("long 0", 0, 0, 0, 5, 0);
        refused("long below 0", 0, 0, 0, 5, Integer.MIN_VALUE);
        refused("longer than there is time", 0, 0, 0, 5, 6);
        refused("very long", 0, 0, 0, 5, Integer.MAX_VALUE);
        refused("12 more than long", 0, 0, 0, 13, 1);
        refused("12 more than long", 0, 0, 3, 65, 50);
        AfterTheLast x = new AfterTheLast();
        Check.is("11 more than long", x.wishes(0, 0, 0, 12, 1), 1);
        Check.is("as long as there is time", x.wishes(11, 5, 0, 95, 95), 2);
        Check.is("11 more than long", x.wishes(11, 5, 0, 95, 84), 3);
        Check.is("12 more than long", x.wishes(11, 5, 0, 95, 83), -2);
        Check.is("a fourth", x.wishes(0, 0, 94, 95, 1), 4);
        Check.is("a fifth", x.wishes(0, 0, 94, 95, 1), 5);
        Check.is("a sixth", x.wishes(0, 0, 94, 95, 1), 6);
        Check.is("a seventh", x.wishes(0, 0, 94, 95, 1), -2);
        Check.is("six", x.count(8), 6);
        Check.is("none then", x.wishes(-1, 99, -5, 0, 0), 0);
        Check.is("none", x.count(8), 0);
        Check.is("one again", x.wishes(0, 0, 94, 95, 1), 1);
    }

    private static void noWishes() {
        AfterTheLast x = new AfterTheLast();
        Check.is("one plan", x.plan(6), 1);
        Check.is("no wish 0", x.plan(0), -1);
        Check.is("no wish 5", x.plan(5), -1);
        Check.is("what -1", x.plan(-1), -1);
        Check.is("what 7", x.plan(7), -1);
    }

    private static void oneWish() {
        AfterTheLast x = new AfterTheLast();
        x.wishes(3, 5, 10, 16, 2);
        Check.is("begins at 10 to 14", x.plan(6), 5);
        Check.is("the earliest", x.plan(0), 10);
        Check.is("no wish 1", x.plan(1), -1);
    }

    private static void ofOnePerson() {
        AfterTheLast x = new AfterTheLast();
        x.wishes(3, 0, 0, 3, 1);
        x.wishes(3, 1, 0, 3, 1);
        Check.is("not at once: 3 * 2", x.plan(6), 6);
        Check.is("first", x.plan(0), 0);
        Check.is("second", x.plan(1), 1);
        AfterTheLast y = new AfterTheLast();
        y.wishes(3, 0, 0, 4, 4);
        y.wishes(3, 0, 2, 6, 2);
        // 2 to 4 and 3 to 5 overlap; 4 to 6 ends not ahead of the end of the first one
        Check.is("touching is fine", y.plan(6), 1);
        Check.is("behind him", y.plan(1), 4);
        AfterTheLast z = new AfterTheLast();
        z.wishes(3, 0, 0, 9, 9);
        z.wishes(3, 0, 2, 4, 2);
        Check.is("not within one another either", z.plan(6), 0);
    }

    private static void ofOneHouse() {
        AfterTheLast x = new AfterTheLast();
        x.wishes(3, 0, 0, 3, 2);
        x.wishes(4, 0, 0, 3, 2);
        Check.is("at once, or not at all", x.plan(6), 2);
        AfterTheLast y = new AfterTheLast();
        y.wishes(3, 0, 0, 9, 9);
        y.wishes(4, 0, 2, 5, 2);
        Check.is("within one another", y.plan(6), 2);
        int[][] alike = {{0, 4, 0, 2}, {0, 2, 0, 4}, {0, 4, 2, 4}, {2, 4, 0, 4}, {0, 4, 0, 4}, {0, 4, 4, 6}};
        for (int[] two : alike) {
            AfterTheLast w = new AfterTheLast();
            w.wishes(3, 0, two[0], two[1], two[1] - two[0]);
            w.wishes(4, 0, two[2], two[3], two[3] - two[2]);
            Check.is(two[0] + " to " + two[1] + " and " + two[2] + " to " + two[3], w.plan(6), 1);
        }
        AfterTheLast z = new AfterTheLast();
        z.wishes(3, 0, 0, 3, 2);
        z.wishes(4, 1, 0, 3, 2);
        Check.is("of two houses", z.plan(6), 4);
    }

    private static void noPlan() {
        AfterTheLast x = new AfterTheLast();
        x.wishes(3, 0, 0, 2, 2);
        x.wishes(4, 0, 1, 3, 2);
        Check.is("how many", x.plan(6), 0);
        Check.is("wish 0", x.plan(0), -2);
        Check.is("wish 1", x.plan(1), -2);
        Check.is("no wish 2", x.plan(2), -1);
        Check.is("what 7", x.plan(7), -1);
        Check.is("what -1", x.plan(-1), -1);
    }

    private static void theFirst() {
        AfterTheLast x = new AfterTheLast();
        // the first wish could begin at 0 but for the second one, which is at 1 to 3
        x.wishes(0, 0, 0, 6, 2);
        x.wishes(1, 0, 1, 3, 2);
        Check.is("the first begins at 1", x.plan(0), 1);
        Check.is("the second begins at 1", x.plan(1), 1);
        Check.is("1, 3 and 4", x.plan(6), 3);
        // an earlier wish's earlier begin counts more than a later one's
        AfterTheLast y = new AfterTheLast();
        y.wishes(0, 0, 0, 4, 1);
        y.wishes(0, 1, 0, 4, 3);
        Check.is("first", y.plan(0), 0);
        Check.is("second", y.plan(1), 1);
        Check.is("0 and 1, 3 and 0", y.plan(6), 2);
    }

    /** What an earlier look at other wishes left behind counts for nothing. */
    private static void wishesOfBefore() {
        AfterTheLast x = new AfterTheLast();
        for (int i = 0; i < 6; i++) {
            x.wishes(i, i, 0, 12, 1);
        }
        x.plan(0);
        x.plan(6);
        x.wishes(-1, 0, 0, 0, 0);
        x.wishes(0, 0, 0, 6, 2);
        x.wishes(1, 0, 1, 3, 2);
        Check.is("the first begins at 1", x.plan(0), 1);
        Check.is("the second begins at 1", x.plan(1), 1);
        Check.is("1, 3 and 4", x.plan(6), 3);
        x.wishes(2, 1, 0, 3, 2);
        Check.is("twice as many", x.plan(6), 6);
        Check.is("no wish 3", x.plan(3), -1);
    }

    private static void manyPlans() {
        AfterTheLast x = new AfterTheLast();
        int due = 1;
        for (int i = 0; i < 5; i++) {
            x.wishes(i, i, 0, 12, 1);
            due *= 12;
            Check.is("12 each", x.plan(6), due);
        }
        x.wishes(5, 5, 0, 4, 1);
        Check.is("995328", x.plan(6), 995328);
        x.image(0);
        x.wishes(-1, 0, 0, 0, 0);
        for (int i = 0; i < 6; i++) {
            x.wishes(i, i, 0, i == 5 ? 5 : 12, 1);
        }
        Check.is("more than a million", x.plan(6), 1000000);
        x.wishes(-1, 0, 0, 0, 0);
        for (int i = 0; i < 6; i++) {
            x.wishes(i, 0, 0, 12, 1);
        }
        Check.is("more than a million in one house", x.plan(6), 1000000);
        x.wishes(-1, 0, 0, 0, 0);
        for (int i = 0; i < 6; i++) {
            x.wishes(0, i, 0, 12, 1);
        }
        Check.is("one person, all unlike: 12 * 11 * 10 * 9 * 8 * 7", x.plan(6), 665280);
        for (int i = 0; i < 6; i++) {
            Check.is("wish " + i, x.plan(i), i);
        }
        x.back(0);
        Check.is("995328 again", x.plan(6), 995328);
    }
}

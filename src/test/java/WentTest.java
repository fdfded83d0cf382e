/** Promises 24 (went), 25 (before) and 26 (orders). */
public final class WentTest {
    public static void main(String[] args) {
        telling();
        facts();
        catalan();
        three();
        byPeople();
        Check.done();
    }

    private static void telling() {
        AfterTheLast x = new AfterTheLast();
        for (int p = 0; p < 8; p++) {
            Check.is("went " + p, x.went(11 - p), p + 1);
            String was = Check.state(x);
            Check.is("in it", x.went(11 - p), -2);
            Check.is("person 12", x.went(12), -2);
            Check.is("person -2", x.went(-2), -2);
            Check.same("went", x, was);
        }
        Check.is("a ninth", x.went(0), -2);
        Check.is("eight", x.count(9), 8);
        Check.is("nobody then", x.went(-1), 0);
        Check.is("none", x.count(9), 0);
        Check.is("one again", x.went(11), 1);
    }

    private static void facts() {
        AfterTheLast x = new AfterTheLast();
        String was = Check.state(x);
        Check.is("of himself", x.before(3, 3), -2);
        Check.is("other 12", x.before(3, 12), -2);
        Check.is("other -1", x.before(3, -1), -2);
        Check.is("one 12", x.before(12, 3), -2);
        Check.is("one -2", x.before(-2, 3), -2);
        Check.same("before", x, was);
        for (int i = 1; i <= 8; i++) {
            Check.is("fact " + i, x.before(1, 2), i);
        }
        Check.is("a ninth", x.before(1, 2), -2);
        Check.is("eight", x.count(10), 8);
        Check.is("none then", x.before(-1, 77), 0);
        Check.is("none", x.count(10), 0);
    }

    private static void catalan() {
        int[] due = {1, 1, 2, 5, 14, 42, 132, 429, 1430};
        int[] row = {4, 9, 1, 0, 11, 7, 3, 8};
        AfterTheLast x = new AfterTheLast();
        Check.is("none went", x.orders(-1), 1);
        Check.is("nobody came", x.orders(0), -1);
        for (int many = 1; many <= 8; many++) {
            x.went(row[many - 1]);
            Check.is("orders of " + many, x.orders(-1), due[many]);
            Check.is("beyond", x.orders(many), -1);
            Check.is("below", x.orders(-2), -1);
        }
    }

    private static void first(String name, AfterTheLast x, int many, int... people) {
        Check.is(name + ": how many", x.orders(-1), many);
        for (int k = 0; k < people.length; k++) {
            Check.is(name + ": " + k, x.orders(k), people[k]);
        }
        Check.is(name + ": beyond", x.orders(people.length), -1);
    }

    private static void three() {
        AfterTheLast x = new AfterTheLast();
        x.went(0);
        x.went(1);
        x.went(2);
        first("0, 1, 2 went", x, 5, 0, 1, 2);
        x.before(2, 0);
        // 2, 0, 1 and 2, 1, 0; but not 1, 2, 0: then 2 would go ahead of 1
        first("2 came ahead of 0", x, 2, 2, 0, 1);
        x.before(1, 0);
        first("and 1 ahead of 0", x, 1, 2, 1, 0);
        x.before(7, 0);
        x.before(0, 7);
        first("facts of others are nothing", x, 1, 2, 1, 0);
        x.before(1, 2);
        first("and 1 ahead of 2: it can't be", x, 0, -2, -2, -2);
        x.before(-1, 0);
        x.before(1, 0);
        x.before(2, 1);
        x.before(0, 2);
        first("a ring of facts", x, 0, -2, -2, -2);
        x.went(-1);
        first("nobody went", x, 1);
    }

    private static void byPeople() {
        AfterTheLast x = new AfterTheLast();
        x.went(5);
        x.went(2);
        x.went(9);
        x.went(0);
        // 0 went last: he may have come first; then 2 (5 came behind him), 5, 9
        first("5, 2, 9, 0 went", x, 14, 0, 2, 5, 9);
        x.before(9, 2);
        // 5, who came behind 0, has gone when 9 comes, and 2 behind him
        Check.is("9 ahead of 2: first", x.orders(0), 0);
        Check.is("9 ahead of 2: second", x.orders(1), 5);
        Check.is("9 ahead of 2: third", x.orders(2), 9);
        Check.is("9 ahead of 2: fourth", x.orders(3), 2);
    }
}

/** The boundary cases of promises 24 (went), 25 (before) and 26 (orders). */
public final class WentEdgeTest {
    public static void main(String[] args) {
        upToEight();
        refusedWent();
        eightFacts();
        refusedFacts();
        noneWent();
        emptyAtFirstAndThen();
        allFactsKept();
        ofTwoInTheRow();
        theLesserFirst();
        thereIsNone();
        refusedOrders();
        Check.done();
    }

    private static AfterTheLast row(int... people) {
        AfterTheLast x = new AfterTheLast();
        for (int i = 0; i < people.length; i++) {
            Check.is("went", x.went(people[i]), i + 1);
        }
        return x;
    }

    private static void upToEight() {
        Doc.says("One comes to the end of WENT (NONE: nobody then): how many; -2, and nothing happens, without these, if he is in it, or there are 8.");
        AfterTheLast x = row(0, 11, 1, 10, 2, 9, 3, 8);
        Check.is("a ninth", x.went(4), -2);
        Check.is("one of them", x.went(0), -2);
        Check.is("how many", x.count(9), 8);
        Check.is("nobody then", x.went(-1), 0);
        Check.is("nobody of nobody", x.went(-1), 0);
        Check.is("how many", x.count(9), 0);
        for (int p = 0; p < 12; p++) {
            Check.is("again, whoever was in it", x.went(p), p < 8 ? p + 1 : -2);
        }
    }

    private static void refusedWent() {
        for (int p : new int[] {12, -2, 5, 3, 8, Integer.MAX_VALUE, Integer.MIN_VALUE}) {
            Twins.leave("went " + p, Twins::some, x -> x.went(p), -2);
        }
        for (int p : new int[] {0, 6, 7, 11}) {
            Twins.leave("a ninth: " + p, x -> {
                Twins.some(x);
                for (int q : new int[] {1, 2, 4, 9, 10}) {
                    x.went(q);
                }
            }, x -> x.went(p), -2);
        }
    }

    private static void eightFacts() {
        Doc.says("AHEAD facts: that one came in ahead of another one (8 at most).");
        Doc.says("An AHEAD fact (one NONE: none then): how many; -2, and nothing happens, without these (unlike), or if there are 8.");
        AfterTheLast x = new AfterTheLast();
        int[][] facts = {{0, 11}, {11, 0}, {0, 11}, {1, 2}, {2, 3}, {3, 4}, {4, 5}, {5, 6}};
        for (int i = 0; i < 8; i++) {
            Check.is("fact " + i, x.before(facts[i][0], facts[i][1]), i + 1);
            Check.is("how many", x.count(10), i + 1);
        }
        Check.is("a ninth", x.before(6, 7), -2);
        Check.is("a ninth told already", x.before(0, 11), -2);
        Check.is("how many", x.count(10), 8);
        Check.is("none then", x.before(-1, 5), 0);
        Check.is("none of none, whatever the other one", x.before(-1, Integer.MIN_VALUE), 0);
        Check.is("none, also of none", x.before(-1, -1), 0);
        Check.is("one again", x.before(6, 7), 1);
    }

    private static void refusedFacts() {
        int[][] none = {{3, 3}, {0, 0}, {12, 0}, {-2, 0}, {0, 12}, {0, -1}, {0, -2}, {12, 12}, {Integer.MAX_VALUE, 0},
            {Integer.MIN_VALUE, 0}, {0, Integer.MAX_VALUE}, {0, Integer.MIN_VALUE}};
        for (int[] ask : none) {
            Twins.leave("before " + ask[0] + ", " + ask[1], Twins::some, x -> x.before(ask[0], ask[1]), -2);
        }
        Twins.leave("a ninth", x -> {
            Twins.some(x);
            for (int i = 0; i < 7; i++) {
                x.before(i, i + 1);
            }
        }, x -> x.before(8, 5), -2);
    }

    private static void noneWent() {
        Doc.says("ORDERS k -1: how many (1 if none WENT), 0 and above: who came k-th in the first one (-2: there is none); NONE without these (k below how many WENT).");
        AfterTheLast x = new AfterTheLast();
        Check.is("one", x.orders(-1), 1);
        Check.is("nobody came", x.orders(0), -1);
        x.before(1, 2);
        x.before(2, 1);
        Check.is("one, whatever the facts", x.orders(-1), 1);
        AfterTheLast y = row(7);
        Check.is("of one: one", y.orders(-1), 1);
        Check.is("of one: he", y.orders(0), 7);
        Check.is("of one: nobody else", y.orders(1), -1);
    }

    private static void emptyAtFirstAndThen() {
        Doc.says("WENT: a row of up to 8 unlike PEOPLE, told one by one, as they went from a HOUSE with the law last, empty then and at first.");
        AfterTheLast two = row(0, 1);
        // 0, 1: each came when the other one was gone; 1, 0: 0 came behind 1
        Check.is("of two", two.orders(-1), 2);
        AfterTheLast three = row(2, 1, 0);
        Check.is("of three", three.orders(-1), 5);
        // 1, 2, 0 and 2, 1, 0 and 0, 1, 2 and 0, 2, 1 and 2, 0, 1; but 1, 0, 2 can't be: 0 came behind 1 and goes behind him
        three.before(1, 0);
        three.before(0, 2);
        Check.is("the one that can't be", three.orders(-1), 0);
        AfterTheLast eight = row(0, 1, 2, 3, 4, 5, 6, 7);
        Check.is("of eight", eight.orders(-1), 1430);
        for (int k = 0; k < 8; k++) {
            Check.is("the first one: " + k, eight.orders(k), k);
        }
        AfterTheLast turned = row(7, 6, 5, 4, 3, 2, 1, 0);
        Check.is("of eight", turned.orders(-1), 1430);
        for (int k = 0; k < 8; k++) {
            Check.is("the first one: " + k, turned.orders(k), k);
        }
    }

    private static void allFactsKept() {
        Doc.says("ORDERS: in how many orders they can have come, all AHEAD facts of two in the row kept; the first of them (by PEOPLE, the lesser first).");
        AfterTheLast x = row(0, 1, 2, 3, 4, 5, 6, 7);
        for (int i = 7; i > 0; i--) {
            x.before(i, i - 1);
        }
        Check.is("one order alone", x.orders(-1), 1);
        for (int k = 0; k < 8; k++) {
            Check.is("who came " + k, x.orders(k), 7 - k);
        }
        x.before(7, 0);
        Check.is("the eighth fact says nothing new", x.orders(-1), 1);
        AfterTheLast y = row(0, 1, 2, 3, 4, 5, 6, 7);
        for (int i = 0; i < 7; i++) {
            y.before(i, i + 1);
        }
        Check.is("one order alone", y.orders(-1), 1);
        y.before(7, 0);
        Check.is("the eighth fact does", y.orders(-1), 0);
        AfterTheLast twice = row(3, 4);
        twice.before(4, 3);
        twice.before(4, 3);
        Check.is("told twice", twice.orders(-1), 1);
    }

    private static void ofTwoInTheRow() {
        AfterTheLast x = row(3, 4);
        x.before(3, 9);
        x.before(9, 4);
        x.before(4, 10);
        x.before(10, 3);
        Check.is("facts of others say nothing", x.orders(-1), 2);
        x.before(4, 3);
        Check.is("one of two in the row does", x.orders(-1), 1);
        x.went(9);
        // 3 ahead of 9, 9 ahead of 4, 4 ahead of 3
        Check.is("now he is in the row", x.orders(-1), 0);
        x.went(-1);
        Check.is("none went", x.orders(-1), 1);
        x.went(9);
        Check.is("one, and the facts stay", x.orders(-1), 1);
        Check.is("facts", x.count(10), 5);
        x.before(-1, 0);
        x.went(4);
        x.went(3);
        Check.is("the facts are gone", x.orders(-1), 5);
    }

    private static void theLesserFirst() {
        AfterTheLast x = row(11, 0, 5);
        // not 0, 5, 11: then 0 could not go ahead of 5
        Check.is("how many", x.orders(-1), 5);
        Check.is("first", x.orders(0), 0);
        Check.is("second", x.orders(1), 11);
        Check.is("third", x.orders(2), 5);
        x.before(5, 0);
        Check.is("5, 0, 11 and 5, 11, 0 and 11, 5, 0", x.orders(-1), 3);
        Check.is("first", x.orders(0), 5);
        Check.is("second", x.orders(1), 0);
        Check.is("third", x.orders(2), 11);
    }

    private static void thereIsNone() {
        AfterTheLast x = row(3, 4, 5);
        x.before(3, 4);
        x.before(4, 3);
        Check.is("how many", x.orders(-1), 0);
        for (int k = 0; k < 3; k++) {
            Check.is("nobody " + k, x.orders(k), -2);
        }
        Check.is("no fourth", x.orders(3), -1);
        Check.is("none below", x.orders(-2), -1);
    }

    private static void refusedOrders() {
        for (int k : new int[] {-2, 3, 8, Integer.MAX_VALUE, Integer.MIN_VALUE}) {
            Twins.leave("orders " + k, Twins::some, x -> x.orders(k), -1);
        }
        // 5, 3, 8 went, and 3 came ahead of 5: so 3, 5, 8 or 8, 3, 5 came, as 3, 8, 5 would leave 8 behind 3
        int[] due = {2, 3, 5, 8};
        for (int k = -1; k < 3; k++) {
            int at = k;
            Twins.leave("orders " + k, Twins::some, x -> x.orders(at), due[k + 1]);
        }
    }
}

import java.math.BigInteger;

/** Promises 11 (tick), 12 (ahead), 13 (bestRule), and what a quarter by a rule does. */
public final class QuarterTest {
    public static void main(String[] args) {
        whoIsLateByWhom();
        again();
        windowsInTurn();
        holdsAndWindows();
        comings();
        goingAndComingInOneQuarter();
        byHandIsNotByRule();
        words();
        reckoning();
        logic();
        ticks();
        aheads();
        aStreetOfBefore();
        aFullStreet();
        allSixRules();
        bestRules();
        Check.done();
    }

    private static void whoIsLateByWhom() {
        AfterTheLast x = Check.with("house last 3 1;stay 0 0 0 4 10;stay 1 0 1 6 20");
        Check.rule(x, "come 1=1");
        Check.is("tick", x.tick(0, 1), 1);
        Check.is("0 came", x.person(0, 0), 0);
        Check.is("for his stay", x.person(0, 1), 0);
        Check.is("1 not yet", x.person(1, 0), -1);
        Check.is("tick", x.tick(0, 3), 4);
        Check.is("1 came", x.person(1, 1), 1);
        Check.is("begun", x.stay(1, 5), 1);
        Check.is("nobody late", x.count(4), 0);
        Check.is("tick", x.tick(0, 1), 5);
        Check.is("0 is late", x.count(4), 1);
        x.tick(0, 1);
        Check.is("0 is later", x.count(4), 2);
        Check.is("both inside", x.count(7), 2);
        Check.is("tick", x.tick(0, 1), 7);
        Check.is("1 went and then 0", x.count(7), 0);
        Check.is("late as before", x.count(4), 2);
        Check.is("no stay any more", x.person(0, 1), -1);
        Check.is("stays were begun", x.count(5), 2);
    }

    private static void again() {
        AfterTheLast x = Check.with("house free 3 0;stay 0 0 0 1 0;stay 1 0 0 1 0;stay 2 0 0 1 0");
        // 1 goes first, then the search begins at 0 again: 0 goes ahead of 2, who is kept then
        Check.rule(x, "hold person = 0 and inside > 2 or person = 2 and not inside = 2");
        x.tick(0, 2);
        Check.is("inside", x.count(7), 1);
        Check.is("2 is there", x.person(2, 0), 0);
        Check.is("late", x.count(4), 1);
    }

    private static void windowsInTurn() {
        String three = "house last 3 2;stay 0 0 0 1 0;stay 1 0 0 1 0;stay 2 0 0 1 0;stay 3 0 0 9 0";
        AfterTheLast x = Check.with(three.replace("last 3", "last 4"));
        Check.rule(x, "window windows = 2");
        x.tick(0, 2);
        // 0 goes; then there is one window and the test no longer holds
        Check.is("one went", x.count(7), 3);
        Check.is("0", x.person(0, 0), -1);
        Check.is("one window left", x.house(0, 2), 1);
        Check.is("two are late", x.count(4), 2);

        AfterTheLast y = Check.with(three.replace("last 3", "last 4"));
        Check.rule(y, "window person > 5;window 1=1");
        y.tick(0, 2);
        Check.is("two went, by all windows", y.count(7), 2);
        Check.is("2 is there", y.person(2, 0), 0);
        Check.is("no window left", y.house(0, 2), 0);
        Check.is("2 is late", y.count(4), 1);
        // 3 is not late, so no window is for him, and he is last
        Check.is("3 is there", y.person(3, 0), 0);
    }

    private static void holdsAndWindows() {
        AfterTheLast x = Check.with("house free 3 9;stay 0 0 0 2 0");
        Check.rule(x, "hold now < 5");
        x.tick(0, 5);
        Check.is("held", x.person(0, 0), 0);
        Check.is("late 2, 3, 4", x.count(4), 3);
        x.tick(0, 1);
        Check.is("gone", x.person(0, 0), -1);
        Check.is("no window used", x.house(0, 2), 9);

        AfterTheLast y = Check.with("house free 3 9;stay 0 0 0 2 0");
        Check.rule(y, "hold 1 = 1;window late >= 1");
        y.tick(0, 3);
        Check.is("held, and late by 0", y.person(0, 0), 0);
        y.tick(0, 1);
        Check.is("late by 1: out by the window, held or not", y.person(0, 0), -1);
        Check.is("one window used", y.house(0, 2), 8);
        Check.is("late", y.count(4), 1);

        AfterTheLast z = Check.with("house free 3 9;stay 0 0 0 2 0");
        Check.rule(z, "hold now = 2;hold now = 3");
        z.tick(0, 4);
        Check.is("some hold test", z.person(0, 0), 0);
        z.tick(0, 1);
        Check.is("none", z.person(0, 0), -1);
    }

    private static void comings() {
        AfterTheLast x = Check.with("house last 1 0;house last 1 0;stay 0 0 0 9 1;stay 1 0 0 9 1;stay 1 1 0 9 1");
        Check.rule(x, "hold 1=2");
        x.tick(0, 8);
        Check.is("no room for the first of his stays: the other one is not tried", x.person(1, 0), -1);
        x.tick(0, 1);
        Check.is("missed both", x.count(6), 2);

        AfterTheLast y = Check.with("house last 3 0;stay 0 0 2 4 1;stay 0 0 3 5 1");
        Check.rule(y, "come now = 3;come now = 4");
        y.tick(0, 3);
        Check.is("no come test held", y.count(7), 0);
        y.tick(0, 1);
        Check.is("the first stay", y.person(0, 1), 0);
        y.tick(0, 1);
        Check.is("went at 4 and came at 4 for the second", y.person(0, 1), 1);
        y.tick(0, 1);
        Check.is("went", y.person(0, 0), -1);
        Check.is("both served", y.count(5), 2);

        AfterTheLast z = Check.with("house last 3 0;stay 0 0 2 4 1");
        Check.rule(z, "come now < 2 or now > 3");
        z.tick(0, 20);
        Check.is("neither ahead of from nor from till on", z.count(5), 0);
        Check.is("missed", z.count(6), 1);

        AfterTheLast w = Check.with("house last 3 0;stay 5 0 0 9 1;stay 3 0 0 9 1;stay 4 0 0 9 1");
        Check.rule(w, "come inside < 2");
        w.tick(0, 1);
        Check.is("by their numbers: first", w.house(0, 5), 3);
        Check.is("by their numbers: last", w.house(0, 4), 4);
        Check.is("two", w.count(7), 2);
    }

    private static void goingAndComingInOneQuarter() {
        AfterTheLast x = Check.with("house last 1 0;house last 1 0;stay 0 0 0 4 1;stay 0 1 4 8 1;stay 1 0 4 6 1");
        Check.rule(x, "come 1=1");
        x.tick(0, 4);
        Check.is("there", x.person(0, 0), 0);
        x.tick(0, 1);
        Check.is("there now", x.person(0, 0), 1);
        Check.is("and another one in his place", x.person(1, 0), 0);
        Check.is("nobody late", x.count(4), 0);
    }

    private static void byHandIsNotByRule() {
        AfterTheLast x = Check.with("house last 3 3;stay 0 0 0 2 1;stay 1 0 0 2 1");
        Check.rule(x, "window person > 0");
        x.come(0, 0);
        x.tick(0, 4);
        Check.is("he is there by hand", x.person(0, 0), 0);
        Check.is("without a stay", x.person(0, 1), -1);
        Check.is("not begun", x.stay(0, 5), 0);
        Check.is("not late", x.count(4), 0);
        Check.is("the other one went by the door", x.house(0, 2), 3);
        Check.is("served", x.count(5), 1);
        Check.is("missed", x.count(6), 1);
        Check.is("he goes by hand", x.go(0, false), true);

        AfterTheLast y = Check.with("house last 3 3;stay 0 0 0 9 1");
        Check.rule(y, "come 1 = 1");
        y.tick(0, 1);
        Check.is("out by hand", y.go(0, false), true);
        y.tick(0, 1);
        Check.is("a stay that was begun is not begun again", y.person(0, 0), -1);
    }

    /** Whether the first of the people outside comes by a test in the next quarter. */
    private static boolean holds(AfterTheLast x, String test) {
        x.image(0);
        int served = x.count(5);
        int rule = Check.rule(x, "come " + test);
        Check.is("rule " + test, rule >= 0, true);
        return x.ahead(rule, 1, 2) > served;
    }

    private static AfterTheLast someWhere() {
        AfterTheLast x = Check.with("house last 9 0;house free 7 4;stay 6 1 2 90 33;stay 5 0 0 1 0");
        Check.rule(x, "come person = 5");
        x.tick(0, 3);
        x.come(8, 1);
        x.come(9, 1);
        x.go(9, true);
        x.come(7, 1);
        return x;
    }

    private static void words() {
        // person 6 is outside at quarter 3; two are in house 1, five places and three windows left
        String[] tests = {"now = 3", "person = 6", "house = 1", "inside = 2", "after = 0", "room = 5", "windows = 3",
            "worth = 33", "late = 0", "long = 87"};
        for (String test : tests) {
            Check.is(test, holds(someWhere(), test), true);
            Check.is(test.replace("=", ">"), holds(someWhere(), test.replace("=", ">")), false);
            Check.is(test.replace("=", "<"), holds(someWhere(), test.replace("=", "<")), false);
            Check.is(test.replace("=", ">="), holds(someWhere(), test.replace("=", ">=")), true);
            Check.is(test.replace("=", "<="), holds(someWhere(), test.replace("=", "<=")), true);
        }
        // of somebody inside whose time is over: after and late
        AfterTheLast x = Check.with("house last 4 1;stay 3 0 0 2 0;stay 1 0 1 9 0;stay 0 0 1 9 0");
        Check.rule(x, "window after = 2 and late = 3 and long = 0 and inside = 3 and room = 1 and windows = 1 and now = 5");
        x.tick(0, 5);
        Check.is("still there", x.person(3, 0), 0);
        x.tick(0, 1);
        Check.is("out by the window", x.person(3, 0), -1);
        Check.is("late at 2, 3 and 4", x.count(4), 3);
    }

    private static boolean reckons(String test) {
        return holds(Check.with("house last 1 0;stay 0 0 0 9 0"), test);
    }

    private static void reckoning() {
        String[] hold = {"1+2*3=7", "7-2-1=4", "12/2/3=2", "2*3/4=1", "3/4*2=0", "7/2=3", "5/0=0", "0/0=0", "5/0+1=1",
            "1-2<0", "0-7/2=0-3", "10-4*2+1=3", "2<3", "2<=2", "3>2", "2>=2", "00007=7", "now+1=1"};
        for (String test : hold) {
            Check.is(test, reckons(test), true);
        }
        String[] not = {"1+2*3=9", "7-2-1=6", "2<2", "3<=2", "2>2", "2>=3", "1=2", "5/0>0", "3-4>=0"};
        for (String test : not) {
            Check.is(test, reckons(test), false);
        }
        StringBuilder product = new StringBuilder("99999");
        BigInteger value = BigInteger.valueOf(99999);
        for (int many = 2; many <= 12; many++) {
            product.append("*99999");
            value = value.multiply(BigInteger.valueOf(99999));
            long round = value.longValue();
            Check.is(product + " goes round", reckons(product + "<0"), round < 0);
            Check.is(product + "/7 is towards 0", reckons(product + "/7-" + product + "/7*7/7=0"), true);
            long part = round / 99998;
            Check.is(product + "/99998", reckons(product + "/99998>" + "99999*9999"), part > 99999L * 9999L);
            long rest = round - round / 1000 * 1000;
            String sign = rest < 0 ? "0-" + -rest : "" + rest;
            Check.is(product + " rest " + rest, reckons(product + "-" + product + "/1000*1000=" + sign), true);
        }
    }

    private static void logic() {
        String[] hold = {"1=1 or 1=2 and 1=2", "not 1=2 and 1=1", "not [1=1 and 1=2]", "[1=1 or 1=2] and 1=1", "not not 1=1",
            "1=2 and 1=2 or 1=1", "1=2 or 1=2 or 1=1", "1=1 and 1=1 and not 1=2", "not[not[1=1]]", "[[1=2]or[1=1]]",
            "not 1=1 or 1=1", "not [1=2 and 1=1]", "not [1=2 and 1=1 and 1=1] and 1=1", "not [1=2 or 1=2]", "1=2 and 1=1 or 1=1 and 1=1", "1=1 and [1=2 or not [1=2 or 1=3]]"};
        for (String test : hold) {
            Check.is(test, reckons(test), true);
        }
        String[] not = {"[1=1 or 1=2] and 1=2", "not 1=1", "not not not 1=1", "1=1 and 1=2", "1=2 or 1=3", "not [1=2 or 1=1]",
            "1=1 and 1=1 and 1=2", "1=2 and 1=1 or 1=1 and 1=2", "not 1=2 and 1=2", "not [1=1] or 1=2", "not [1=1 or 1=2]", "not [1=1 or 1=2 or 1=3] or 1=2", "1=2 and [1=1 or 1=1]"};
        for (String test : not) {
            Check.is(test, reckons(test), false);
        }
    }

    private static void ticks() {
        AfterTheLast x = Check.with("house last 1 0;stay 0 0 0 95 0");
        Check.rule(x, "hold 1=1");
        String was = Check.state(x);
        Check.is("no such rule", x.tick(1, 1), -1);
        Check.is("no rule below 0", x.tick(-1, 1), -1);
        Check.is("0 quarters", x.tick(0, 0), -1);
        Check.is("-1 quarters", x.tick(0, -1), -1);
        Check.is("97 quarters", x.tick(0, 97), -1);
        Check.is("very many quarters", x.tick(0, Integer.MAX_VALUE), -1);
        Check.same("tick", x, was);
        Check.is("96 quarters", x.tick(0, 96), 96);
        Check.is("late at 95", x.count(4), 1);
        was = Check.state(x);
        Check.is("none is left", x.tick(0, 1), -1);
        Check.same("tick at 96", x, was);
        AfterTheLast y = Check.with("house last 1 0");
        Check.rule(y, "hold 1=1");
        Check.is("40", y.tick(0, 40), 40);
        Check.is("57 more are too many", y.tick(0, 57), -1);
        Check.is("56 more", y.tick(0, 56), 96);
    }

    private static void aheads() {
        AfterTheLast y = Check.with("house last 3 2;stay 0 0 90 95 10");
        Check.rule(y, "hold 1=1");
        Check.is("all 96 quarters", y.ahead(0, 96, 1), 1);
        Check.is("97 quarters", y.ahead(0, 97, 1), -1);
        Check.is("nothing changed", y.count(3), 0);
        AfterTheLast x = Check.with("house last 3 2;house free 3 3;stay 0 0 0 4 10;stay 1 0 1 6 20;stay 2 1 7 9 0");
        Check.rule(x, "window late > 0");
        Check.rule(x, "hold 1=1");
        x.tick(0, 1);
        String was = Check.state(x);
        int[][] due = {
            {0, 1, 0, 1, 5}, {1, 2, 0, 2, 5}, {4, 2, 1, 2, 5}, {5, 1, 1, 2, 4}, {6, 0, 1, 2, 4}, {7, 1, 1, 3, 4}, {95, 0, 1, 3, 4}};
        for (int[] row : due) {
            for (int what = 0; what < 4; what++) {
                Check.is("ahead " + row[0] + " " + what, x.ahead(0, row[0], what), row[what + 1]);
            }
        }
        Check.is("by the other rule: inside", x.ahead(1, 95, 0), 3);
        Check.is("by the other rule: late", x.ahead(1, 95, 1), 92 + 90 + 87);
        Check.is("ahead of 96", x.ahead(0, 96, 0), -1);
        Check.is("ahead of -1", x.ahead(0, -1, 0), -1);
        Check.is("ahead of very many", x.ahead(0, Integer.MAX_VALUE, 0), -1);
        Check.is("no such rule", x.ahead(2, 0, 0), -1);
        Check.is("what -1", x.ahead(0, 0, -1), -1);
        Check.is("what 4", x.ahead(0, 0, 4), -1);
        Check.same("ahead", x, was);
        // late of these quarters alone
        x.tick(1, 5);
        Check.is("late so far", x.count(4), 2);
        Check.is("late ahead of 0", x.ahead(1, 0, 1), 0);
        Check.is("late ahead of 1", x.ahead(1, 1, 1), 2);
    }

    /** Houses and stays of a street before this one are gone. */
    private static void aStreetOfBefore() {
        AfterTheLast x = Check.with("house free 9 9;house free 9 8;stay 0 0 0 9 1;stay 1 1 0 9 1;stay 2 1 50 60 1");
        Check.rule(x, "hold 1=1");
        x.come(7, 1);
        x.tick(0, 2);
        Check.is("served", x.count(5), 2);
        Check.street(x, "house free 9 1;stay 3 0 40 50 1");
        Check.is("nobody inside", x.count(7), 0);
        Check.is("none missed", x.count(6), 0);
        Check.is("windows", x.ahead(0, 0, 3), 1);
        Check.is("inside at the end", x.ahead(0, 96, 0), 1);
        Check.is("served at the end", x.ahead(0, 96, 2), 1);
        Check.is("now", x.tick(0, 96), 96);
        Check.is("served", x.count(5), 1);
        Check.is("missed", x.count(6), 0);
        Check.is("inside", x.count(7), 1);
    }

    /** Six houses, eighteen stays, and all twelve in the last house. */
    private static void aFullStreet() {
        StringBuilder street = new StringBuilder("house free 12 9");
        for (int h = 1; h < 6; h++) {
            street.append(";house free 12 9");
        }
        for (int s = 0; s < 18; s++) {
            street.append(";stay ").append(s % 12).append(" 5 ").append(s / 12 * 9).append(' ').append(s / 12 * 9 + 4).append(" 1");
        }
        AfterTheLast x = Check.with(street.toString());
        Check.rule(x, "come now < 9");
        x.tick(0, 1);
        Check.is("all twelve inside", x.house(5, 3), 12);
        Check.is("inside", x.count(7), 12);
        Check.is("served", x.count(5), 12);
        Check.is("windows", x.ahead(0, 0, 3), 54);
        Check.is("the first goes", x.go(0, false), true);
        Check.is("the next one is first", x.house(5, 5), 1);
        Check.is("the last is last", x.house(5, 4), 11);
        Check.is("he comes again", x.come(0, 5), true);
        Check.is("he is last", x.house(5, 4), 0);
        Check.is("a middle one goes", x.go(6, true), true);
        Check.is("eleven", x.count(7), 11);
        x.tick(0, 95);
        Check.is("who came by hand is there", x.count(7), 1);
        Check.is("missed", x.count(6), 6);
        Check.is("windows", x.ahead(0, 0, 3), 53);
        Check.is("evenings", x.evenings(0, 2, 1), 24);
    }

    private static void allSixRules() {
        AfterTheLast x = Check.with("house free 9 9;stay 0 0 0 9 1");
        for (int rule = 0; rule < 6; rule++) {
            Check.is("not told yet: tick", x.tick(rule, 1), -1);
            Check.is("not told yet: ahead", x.ahead(rule, 1, 0), -1);
            Check.is("not told yet: evenings", x.evenings(rule, 1, 0), -1);
            Check.rule(x, "come now >= " + rule);
        }
        for (int rule = 0; rule < 6; rule++) {
            Check.is("told: ahead", x.ahead(rule, rule, 0), 0);
            Check.is("told: ahead, one more", x.ahead(rule, rule + 1, 0), 1);
        }
        Check.is("no seventh: tick", x.tick(6, 1), -1);
        Check.is("no seventh: ahead", x.ahead(6, 1, 0), -1);
        Check.is("no seventh: evenings", x.evenings(6, 1, 0), -1);
    }

    private static void bestRules() {
        AfterTheLast x = Check.with("house last 3 2;stay 0 0 0 4 10;stay 1 0 1 6 20");
        Check.is("none", x.bestRule(), -2);
        Check.rule(x, "hold 1=1");
        Check.is("the only one", x.bestRule(), 0);
        Check.rule(x, "come 1=1");
        Check.is("fewer late: 2", x.bestRule(), 1);
        Check.rule(x, "come person = 1");
        Check.is("none late", x.bestRule(), 2);
        Check.rule(x, "come person = 0");
        Check.is("of several the least", x.bestRule(), 2);
        Check.rule(x, "window 1=1");
        Check.is("none late, and more served", x.bestRule(), 4);
        String was = Check.state(x);
        x.bestRule();
        Check.same("bestRule", x, was);
        x.tick(1, 96);
        Check.is("behind the last quarter all are alike", x.bestRule(), 0);
    }
}

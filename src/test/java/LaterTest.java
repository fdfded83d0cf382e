import java.util.Random;

/**
 * What one call leaves for a later one: by hand, by rules, ahead, evenings, images gone back to, a new
 * street. Each kind of call first by hand, and then by chance (always the same runs), where one object
 * takes another way to the same place and must answer the same from there on.
 */
public final class LaterTest {
    private static final String[] RULES = {"come 1=1", "hold late < 3", "come inside < 2 or worth > 50;window late > 4",
        "hold after > 0 and late < 6;window windows > 1 and late > 1", "come long > 3;come now > 20;hold person / 2 * 2 = person and late < 5",
        "window 1=1"};

    public static void main(String[] args) {
        goneByHand();
        thereByHand();
        aWindowTakenByHand();
        rulesLeaveForHands();
        waitsFromQuarterToQuarter();
        aRuleForEachStreet();
        aStreetWithAFault();
        imagesOfStreets();
        tapeAndRulesOverAll();
        for (int run = 0; run < 150; run++) {
            looksLeaveNothing(run);
            aheadAsTicked(run);
            bestRuleAsAhead(run);
            eveningsAsStreets(run);
            backAsItWas(run);
            aNewStreetAsOnANewObject(run);
            inPartsAsAtOnce(run);
        }
        Check.done();
    }

    // ---- by hand ----

    private static void goneByHand() {
        AfterTheLast x = Check.with("house last 3 1;stay 0 0 0 4 9;stay 0 0 2 6 9;stay 1 0 0 4 9");
        Check.rule(x, "hold 1=1");
        x.tick(0, 3);
        Check.is("0 is below 1", x.go(0, false), false);
        Check.is("so he takes the window", x.go(0, true), true);
        Check.is("his stay stays begun", x.stay(0, 5), 1);
        Check.is("the second one was not", x.stay(1, 5), 0);
        Check.is("at 3 he comes for the second one", x.tick(0, 1), 4);
        Check.is("his stay there", x.person(0, 1), 1);
        Check.is("1 came ahead of him now", x.person(1, 3), 1);
        Check.is("out by hand again", x.go(0, false), true);
        x.tick(0, 92);
        Check.is("no stay is left for him", x.person(0, 0), -1);
        Check.is("both were served", x.count(5), 3);
        Check.is("none is missed", x.count(6), 0);
        Check.is("1 alone is late", x.count(4), 92);
        Check.is("1 goes by hand at 96", x.go(1, false), true);
        Check.is("late stays what it was", x.count(4), 92);
    }

    private static void thereByHand() {
        AfterTheLast x = Check.with("house last 2 0;house first 9 0;stay 0 0 0 3 1;stay 1 0 1 5 1;stay 2 1 2 4 1");
        Check.rule(x, "come 1=1");
        x.come(5, 0);
        x.tick(0, 2);
        Check.is("0 has the last place", x.person(0, 1), 0);
        Check.is("there is no room for 1", x.person(1, 0), -1);
        x.come(2, 1);
        x.tick(0, 1);
        Check.is("2 is there by hand: his stay does not begin", x.stay(2, 5), 0);
        x.go(2, false);
        x.tick(0, 1);
        Check.is("it begins behind his going", x.person(2, 1), 2);
        Check.is("0 went, and 1 has his place", x.person(1, 1), 1);
        Check.is("5 may not go", x.go(5, false), false);
        x.come(6, 1);
        x.tick(0, 1);
        Check.is("2 went first of the two", x.person(2, 0), -1);
        Check.is("6 is there by hand", x.person(6, 1), -1);
        x.come(7, 0);
        Check.is("no room by hand either", x.person(7, 0), -1);
        x.tick(0, 91);
        Check.is("who came by hand stays", x.count(7), 2);
        Check.is("nobody is late", x.count(4), 0);
    }

    private static void aWindowTakenByHand() {
        AfterTheLast x = Check.with("house last 5 1;stay 0 0 0 2 1;stay 1 0 0 9 1;stay 2 0 0 1 1");
        Check.rule(x, "window 1=1");
        x.tick(0, 1);
        Check.is("windows ahead of 4", x.ahead(0, 4, 3), 0);
        Check.is("late by the rule: none", x.ahead(0, 4, 1), 0);
        Check.is("1 takes it by hand", x.go(1, true), true);
        Check.is("2 goes at 1, and 0 at 2 by the door", x.ahead(0, 4, 1), 0);
        x.come(1, 0);
        Check.is("below him they are late, 2 from 1 and 0 from 2 on", x.ahead(0, 3, 1), 3 + 2);
        Check.is("no window is left", x.ahead(0, 3, 3), 0);
        x.go(1, false);
        x.come(1, 0);
        Check.is("by the door none is taken", x.house(0, 2), 0);
    }

    // ---- by rules ----

    private static void rulesLeaveForHands() {
        AfterTheLast x = Check.with("house last 4 2;house first 4 1;stay 0 0 0 3 1;stay 1 0 1 9 1;stay 2 1 0 2 1;stay 3 1 1 9 1");
        Check.rule(x, "window late > 0");
        x.tick(0, 2);
        Check.is("the law last: 0 may not", x.person(0, 2), 0);
        Check.is("the law last: 1 may", x.person(1, 2), 1);
        Check.is("the law first: 2 may", x.person(2, 2), 1);
        Check.is("the law first: 3 may not", x.person(3, 2), 0);
        x.tick(0, 3);
        Check.is("0 was late once", x.count(4), 1);
        Check.is("and went by the window", x.house(0, 2), 1);
        Check.is("the other house has its window", x.house(1, 2), 1);
        Check.is("3 is first now", x.person(3, 2), 1);
        Check.is("3 goes by hand", x.go(3, false), true);
        Check.is("0 comes again by hand", x.come(0, 0), true);
        Check.is("there he is by hand", x.person(0, 1), -1);
        x.tick(0, 10);
        Check.is("below 0 the other one is late, once", x.count(4), 2);
        Check.is("and takes the last window", x.house(0, 2), 0);
        Check.is("0 stays", x.count(7), 1);
        Check.is("and finds no window", x.go(0, true), false);
        Check.is("he may go", x.go(0, false), true);
    }

    private static void waitsFromQuarterToQuarter() {
        AfterTheLast x = Check.with("house last 4 2;house last 4 2;stay 0 0 0 9 1;stay 1 1 1 9 1;stay 1 0 3 9 1");
        Check.rule(x, "come 1=1");
        x.waits(0, 1);
        x.waits(1, 0);
        x.tick(0, 1);
        Check.is("one is outside", x.rings(0), 0);
        x.image(2);
        x.tick(0, 1);
        Check.is("each is in a house and waits for the other one", x.rings(0), 2);
        Check.is("ahead changes no waits", x.ahead(0, 90, 0), 0);
        Check.is("it is so still", x.rings(1), 3);
        x.go(1, true);
        x.tick(0, 2);
        Check.is("both are in one house: nobody waits", x.person(0, 4) + x.person(1, 4), -2);
        Check.is("no ring", x.rings(0), 0);
        x.go(1, false);
        x.come(1, 1);
        Check.is("nor does he wait again when the other one is elsewhere", x.rings(1), 0);
        x.back(2);
        Check.is("they waited then", x.person(0, 4) + x.person(1, 4), 1);
        Check.street(x, "house last 4 2;house last 4 2");
        Check.is("nobody waits on a new street", x.person(0, 4) + x.person(1, 4), -2);
    }

    private static void aRuleForEachStreet() {
        AfterTheLast x = new AfterTheLast();
        Check.is("a rule ahead of any street", Check.rule(x, "come house = 1 and room > 1;window windows = 1"), 0);
        Check.is("nothing to do", x.tick(0, 7), 7);
        Check.street(x, "house free 9 0;stay 0 0 0 9 1");
        Check.is("now is 0", x.count(3), 0);
        Check.is("house 0 is not meant", x.ahead(0, 96, 2), 0);
        Check.street(x, "house free 9 0;house last 2 1;stay 0 1 0 9 1;stay 1 1 0 9 1;stay 2 0 0 9 1");
        Check.is("one comes to house 1, and room is 1 then", x.ahead(0, 9, 2), 1);
        x.come(11, 1);
        Check.is("room is 1 now", x.ahead(0, 9, 2), 0);
        Check.is("the best of one", x.bestRule(), 0);
    }

    // ---- texts ----

    private static void aStreetWithAFault() {
        String[] faults = {"house last 3 1;stay 0 0 5 5 1", "", "house free 1 1;house free 1 1;house free 1 1;house", "stay 0 0 0 1 1"};
        for (String text : faults) {
            Twins.same("all but the tape is as it was behind '" + text + "'", x -> { Twins.some(x); x.end(0); }, x -> {
                Twins.some(x);
                x.end(0);
                Check.is("a fault", Check.street(x, text) < -2, true);
                Check.is("the tape is empty", x.count(13), 0);
            });
            Twins.same("also for a rule behind '" + text + "'", x -> { Twins.some(x); x.end(0); }, x -> {
                Twins.some(x);
                x.end(0);
                Check.is("a fault", Check.rule(x, text) < -2, true);
                Check.is("the tape is empty", x.count(13), 0);
            });
        }
    }

    private static void imagesOfStreets() {
        AfterTheLast x = new AfterTheLast();
        Check.rule(x, "come 1=1");
        for (int k = 0; k < 4; k++) {
            Check.street(x, "house free " + (k + 1) + " " + k + ";stay " + k + " 0 " + k + " 50 " + k);
            x.tick(0, k + 1);
            x.come(11, 0);
            x.image(k);
        }
        for (int k : new int[] {2, 0, 3, 1, 1, 3}) {
            Check.is("now", x.back(k), k + 1);
            Check.is("room", x.house(0, 1), k + 1);
            Check.is("windows", x.house(0, 2), k);
            Check.is("his stay", x.stay(0, 0), k);
            Check.is("he is there", x.person(k, 1), 0);
            Check.is("11 is there if there was room", x.person(11, 0), k > 0 ? 0 : -1);
            Check.is("late at the end", x.ahead(0, 95 - k, 1), 0);
            x.go(k, false);
            x.tick(0, 60);
        }
    }

    private static void tapeAndRulesOverAll() {
        AfterTheLast x = new AfterTheLast();
        Check.tell(x, "come now = 4");
        x.image(0);
        x.back(0);
        Check.is("the tape goes on", x.feed(0x206f7220, 0x6e6f773d, 0x36202020, 0x20202020, 0x20202020), 32);
        Check.is("and is one rule", x.rule(), 0);
        Check.street(x, "house free 9 0;stay 0 0 0 5 1;stay 1 0 6 7 1");
        Check.is("4 or 6", x.ahead(0, 96, 2), 2);
        Check.is("not at 4", x.ahead(0, 4, 2), 0);
        Check.is("behind 4", x.ahead(0, 5, 2), 1);
        x.back(0);
        Check.is("the rule stays, the street does not", x.count(2) * 10 + x.count(0), 10);
    }

    // ---- by chance ----

    private static String street(Random chance) {
        StringBuilder b = new StringBuilder();
        int houses = 1 + chance.nextInt(3);
        for (int h = 0; h < houses; h++) {
            b.append(h > 0 ? ";" : "").append("house ").append(new String[] {"last", "first", "free"}[chance.nextInt(3)])
                .append(' ').append(1 + chance.nextInt(5)).append(' ').append(chance.nextInt(4));
        }
        for (int s = chance.nextInt(15); s > 0; s--) {
            int from = chance.nextInt(chance.nextBoolean() ? 12 : 90);
            b.append(";stay ").append(chance.nextInt(12)).append(' ').append(chance.nextInt(houses)).append(' ').append(from)
                .append(' ').append(from + 1 + chance.nextInt(5 + chance.nextInt(90 - from))).append(' ').append(chance.nextInt(100));
        }
        return b.toString();
    }

    private static void begin(AfterTheLast x, Random chance) {
        Check.is("a street", Check.street(x, street(chance)) > 0, true);
        for (String rule : RULES) {
            Check.rule(x, rule);
        }
    }

    /** One change by chance, but no street and no rule; what it answers. */
    private static int change(AfterTheLast x, Random chance) {
        int p = chance.nextInt(12);
        switch (chance.nextInt(14)) {
            case 0: case 1: case 2: return x.come(p, chance.nextInt(3)) ? 1 : 0;
            case 3: return x.go(p, false) ? 1 : 0;
            case 4: return x.go(p, true) ? 1 : 0;
            case 5: case 6: return x.tick(chance.nextInt(6), 1 + chance.nextInt(4));
            case 7: return x.waits(p, chance.nextInt(13) - 1);
            case 8: return x.worth(p, chance.nextInt(100));
            case 9: return x.wishes(chance.nextInt(9) - 1, chance.nextInt(3), p, p + 9, 3 + chance.nextInt(4));
            case 10: return x.went(chance.nextInt(13) - 1);
            case 11: return x.before(chance.nextInt(13) - 1, p);
            case 12: return x.guest(chance.nextInt(31) - 1, 31 + chance.nextInt(20));
            default: return x.seed(chance.nextInt() & Integer.MAX_VALUE);
        }
    }

    /** One look by chance, which must leave all as it is. */
    private static void look(AfterTheLast x, Random chance) {
        int any = chance.nextInt(6);
        switch (chance.nextInt(14)) {
            case 0: x.ahead(any, chance.nextInt(97), chance.nextInt(4)); break;
            case 1: x.evenings(any, 1 + chance.nextInt(3), chance.nextInt(3)); break;
            case 2: x.bestRule(); break;
            case 3: x.most(chance.nextInt(3), any % 2); break;
            case 4: x.houses(1 + chance.nextInt(4095), any % 3, any / 3); break;
            case 5: x.fits(chance.nextInt(1 << 14), any % 3, any / 3); break;
            case 6: x.plan(chance.nextInt(7)); break;
            case 7: x.rings(chance.nextInt(4)); break;
            case 8: x.asks(any); break;
            case 9: x.orders(chance.nextInt(9) - 1); break;
            case 10: x.kept(chance.nextInt(96), chance.nextInt(96), any % 2); break;
            case 11: x.knocks(chance.nextInt(17), 1 + any, chance.nextInt(100), 95, chance.nextInt(96), any % 2); break;
            case 12: x.person(chance.nextInt(12), any); break;
            default: x.cross(any, 1 + chance.nextInt(12), any % 3);
        }
    }

    private static void looksLeaveNothing(int run) {
        AfterTheLast looked = new AfterTheLast();
        AfterTheLast left = new AfterTheLast();
        begin(looked, new Random(run));
        begin(left, new Random(run));
        Random one = new Random(run + 1000);
        Random other = new Random(run + 1000);
        Random looks = new Random(run + 2000);
        for (int i = 0; i < 60; i++) {
            for (int n = looks.nextInt(4); n > 0; n--) {
                look(looked, looks);
            }
            Check.is("run " + run + ": what change " + i + " answers behind looks", change(looked, one), change(left, other));
        }
        Check.is("run " + run + ": all that it answers behind looks", Twins.all(looked).equals(Twins.all(left)), true);
    }

    private static AfterTheLast changed(int run) {
        AfterTheLast x = new AfterTheLast();
        Random chance = new Random(run);
        begin(x, chance);
        for (int i = chance.nextInt(30); i > 0; i--) {
            change(x, chance);
        }
        return x;
    }

    private static int windows(AfterTheLast x) {
        int many = 0;
        for (int h = 0; h < x.count(0); h++) {
            many += x.house(h, 2);
        }
        return many;
    }

    private static void aheadAsTicked(int run) {
        AfterTheLast x = changed(run);
        int now = x.count(3);
        int late = x.count(4);
        for (int rule = 0; rule < 6; rule++) {
            int n = now + rule * 17 > 96 ? 96 - now : rule * 17;
            x.image(0);
            int[] ahead = {x.ahead(rule, n, 0), x.ahead(rule, n, 1), x.ahead(rule, n, 2), x.ahead(rule, n, 3)};
            Check.is("now", n == 0 ? now : x.tick(rule, n), now + n);
            Check.is("run " + run + ": inside", ahead[0], x.count(7));
            Check.is("run " + run + ": late", ahead[1], x.count(4) - late);
            Check.is("run " + run + ": served", ahead[2], x.count(5));
            Check.is("run " + run + ": windows", ahead[3], windows(x));
            Check.is("now again", x.back(0), now);
        }
    }

    private static void bestRuleAsAhead(int run) {
        AfterTheLast x = changed(run);
        int n = 96 - x.count(3);
        int best = 0;
        for (int rule = 1; rule < 6; rule++) {
            int less = x.ahead(best, n, 1) - x.ahead(rule, n, 1);
            if (less > 0 || (less == 0 && x.ahead(rule, n, 2) > x.ahead(best, n, 2))) {
                best = rule;
            }
        }
        Check.is("run " + run + ": best rule", x.bestRule(), best);
    }

    /** An evening is what a street brings whose tills were told later by that much. */
    private static void eveningsAsStreets(int run) {
        Random chance = new Random(run);
        String text = street(chance);
        int seed = chance.nextInt() & Integer.MAX_VALUE;
        int rule = run % 6;
        AfterTheLast x = Check.with(text);
        for (String each : RULES) {
            Check.rule(x, each);
        }
        x.seed(seed);
        long draw = seed;
        int[] due = new int[3];
        for (int m = 1; m <= 3; m++) {
            StringBuilder later = new StringBuilder();
            for (String clause : text.split(";")) {
                String[] words = clause.split(" ");
                if (words[0].equals("stay")) {
                    draw = (draw * 1103515245L + 12345L) % 2147483648L;
                    words[4] = "" + Math.min(95, Integer.parseInt(words[4]) + draw / 65536 % 4);
                }
                later.append(later.length() > 0 ? ";" : "").append(String.join(" ", words));
            }
            AfterTheLast evening = Check.with(later.toString());
            Check.rule(evening, RULES[rule]);
            evening.tick(0, 96);
            due[0] += evening.count(4);
            due[1] += evening.count(5);
            due[2] += evening.count(7) == 0 ? 1 : 0;
            for (int what = 0; what < 3; what++) {
                Check.is("run " + run + ": evenings " + m + ", what " + what, x.evenings(rule, m, what), due[what]);
            }
        }
        Check.is("x is as it was", x.count(12), seed);
    }

    private static void backAsItWas(int run) {
        AfterTheLast straight = changed(run);
        AfterTheLast round = changed(run);
        Random chance = new Random(run + 3000);
        int k = run % 4;
        straight.image(k);
        round.image(k);
        for (int i = 0; i < 40; i++) {
            change(round, chance);
        }
        if (run % 2 == 0) {
            Check.street(round, street(chance));
            for (int i = 0; i < 10; i++) {
                change(round, chance);
            }
        }
        Check.is("now", round.back(k), straight.count(3));
        for (int i = 0; i < 20; i++) {
            Random same = new Random(run * 100L + i);
            int answer = change(straight, new Random(run * 100L + i));
            Check.is("run " + run + ": what change " + i + " answers behind going back", change(round, same), answer);
        }
        Check.is("run " + run + ": all that it answers behind going back", Twins.all(round).equals(Twins.all(straight)), true);
    }

    /** Behind a street all is as on a new object where worths, wishes and so on were told the same. */
    private static void aNewStreetAsOnANewObject(int run) {
        AfterTheLast old = changed(run);
        old.wishes(-1, 0, 0, 0, 0);
        old.went(-1);
        old.before(-1, 0);
        old.guest(-1, 0);
        AfterTheLast fresh = new AfterTheLast();
        for (String rule : RULES) {
            Check.rule(fresh, rule);
        }
        for (int p = 0; p < 12; p++) {
            fresh.worth(p, old.person(p, 5));
        }
        fresh.seed(old.count(12));
        String next = street(new Random(run + 4000));
        for (AfterTheLast x : new AfterTheLast[] {old, fresh}) {
            x.wishes(3, 1, 2, 20, 9);
            x.went(7);
            x.went(2);
            x.before(2, 7);
            x.guest(3, 40);
            Check.is("a street", Check.street(x, next) > 0, true);
        }
        for (int i = 0; i < 30; i++) {
            Random same = new Random(run * 1000L + i);
            int answer = change(fresh, new Random(run * 1000L + i));
            Check.is("run " + run + ": what change " + i + " answers on a new street", change(old, same), answer);
        }
        Check.is("run " + run + ": all that it answers on a new street", Twins.all(old).equals(Twins.all(fresh)), true);
    }

    private static void inPartsAsAtOnce(int run) {
        AfterTheLast parts = changed(run);
        AfterTheLast once = changed(run);
        int rule = run % 6;
        int left = 96 - once.count(3);
        if (left > 0) {
            Check.is("at once", once.tick(rule, left), 96);
        }
        Random chance = new Random(run);
        while (left > 0) {
            int n = 1 + chance.nextInt(Math.min(9, left));
            left -= n;
            Check.is("in parts", parts.tick(rule, n), 96 - left);
        }
        Check.is("run " + run + ": all that it answers at 96", Twins.all(parts).equals(Twins.all(once)), true);
    }
}

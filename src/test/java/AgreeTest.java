import java.util.ArrayList;
import java.util.List;
import java.util.Random;

/**
 * What the calls say of one another: what is reckoned is also done, by hand or by a rule, on the same
 * class, and both must agree. Always the same runs.
 */
public final class AgreeTest {
    public static void main(String[] args) {
        for (int run = 0; run < 60; run++) {
            setsAgreeWithTwos(run);
            mostIsASetThatTheHouseTakes(run);
            aPlanIsAStreetWithoutLate(run);
            undoneLetOutByHand(run);
            stuckAreThoseWhoStay(run);
            ordersComeAndGoByHand(run);
            keptByGuestsWhoCome(run);
            knocksDownwards(run);
            asksOfTheOthers(run);
        }
        Check.done();
    }

    private static String stays(Random chance, int people, int houses, int many, int width) {
        StringBuilder b = new StringBuilder();
        for (int s = 0; s < many; s++) {
            int from = chance.nextInt(width);
            b.append(";stay ").append(chance.nextInt(people)).append(' ').append(chance.nextInt(houses)).append(' ').append(from)
                .append(' ').append(from + 1 + chance.nextInt(width)).append(' ').append(chance.nextInt(20));
        }
        return b.toString();
    }

    // ---- sets of stays ----

    private static void setsAgreeWithTwos(int run) {
        Random chance = new Random(run);
        int many = 1 + chance.nextInt(12);
        AfterTheLast x = Check.with("house last 3 0" + stays(chance, 12, 1, many, 9));
        int law = run % 3;
        int set = 1 + chance.nextInt((1 << many) - 1);
        int twos = 0;
        for (int a = 0; a < many; a++) {
            for (int b = 0; b < a; b++) {
                Check.is("cross is of both alike", x.cross(a, b, law), x.cross(b, a, law));
                twos += (set >> a & 1) == 1 && (set >> b & 1) == 1 ? x.cross(a, b, law) : 0;
            }
        }
        int houses = x.houses(set, law, 0);
        int gap = x.houses(set, law, 1);
        Check.is("crossings", x.fits(set, law, 1), twos);
        Check.is("it fits without crossings", x.fits(set, law, 0), twos == 0 ? 1 : 0);
        Check.is("one house if it fits", houses == 1, twos == 0);
        Check.is("gap is above 1 if two cross", gap > 1, twos > 0);
        Check.is("houses are gap and above", houses >= gap, true);
        int first = Integer.lowestOneBit(set);
        int less = set == first ? 0 : x.houses(set & ~first, law, 0);
        Check.is("one stay less: as many houses or one less", less == houses || less == houses - 1, true);
    }

    /** The set alone on a street, each of another person, all held by no rule: nobody is late by it. */
    private static void mostIsASetThatTheHouseTakes(int run) {
        Random chance = new Random(run);
        int room = 1 + chance.nextInt(4);
        String head = "house last " + room + " 0;house free 2 0";
        String text = head + stays(chance, 12, 2, 8 + chance.nextInt(4), 12);
        AfterTheLast x = Check.with(text);
        int set = x.most(0, 1);
        int worth = 0;
        for (int s = 0; s < x.count(1); s++) {
            if ((set >> s & 1) == 1) {
                worth += x.stay(s, 4);
                Check.is("of this house", x.stay(s, 1), 0);
            }
        }
        Check.is("worth", x.most(0, 0), worth);
        Check.is("no two cross", x.fits(set, 0, 1), 0);
        for (int q = 0; q < 40; q++) {
            int there = 0;
            for (int s = 0; s < x.count(1); s++) {
                there += (set >> s & 1) == 1 && x.stay(s, 2) <= q && q < x.stay(s, 3) ? 1 : 0;
            }
            Check.is("room at " + q, there <= room, true);
        }
        for (int s = 0; s < x.count(1); s++) {
            boolean alone = x.stay(s, 1) == 0;
            Check.is("no stay alone is worth more", alone && x.stay(s, 4) > worth, false);
        }
    }

    // ---- plans ----

    /** The first plan as a street, the outer stays told ahead: all come, and nobody is late. */
    private static void aPlanIsAStreetWithoutLate(int run) {
        Random chance = new Random(run);
        AfterTheLast x = new AfterTheLast();
        int[] person = new int[6];
        int[] house = new int[6];
        int[] lasts = new int[6];
        int many = 1 + chance.nextInt(6);
        for (int i = 0; i < many; i++) {
            int from = chance.nextInt(12);
            person[i] = chance.nextInt(5);
            house[i] = chance.nextInt(3);
            lasts[i] = 1 + chance.nextInt(6);
            x.wishes(person[i], house[i], from, from + lasts[i] + chance.nextInt(8), lasts[i]);
        }
        Check.is("there is a plan if there are some", x.plan(0) >= 0, x.plan(6) > 0);
        if (x.plan(6) == 0) {
            return;
        }
        List<int[]> order = new ArrayList<>();
        for (int i = 0; i < many; i++) {
            order.add(new int[] {i, x.plan(i), x.plan(i) + lasts[i]});
        }
        // of two who come in one quarter the one that goes later must come ahead: he has the lesser number
        order.sort((a, b) -> a[1] != b[1] ? a[1] - b[1] : b[2] - a[2]);
        StringBuilder b = new StringBuilder("house last 12 0;house last 12 0;house last 12 0");
        for (int i = 0; i < many; i++) {
            int[] one = order.get(i);
            b.append(";stay ").append(i).append(' ').append(house[one[0]]).append(' ').append(one[1]).append(' ').append(one[2]).append(" 0");
        }
        AfterTheLast y = Check.with(b.toString());
        Check.rule(y, "come 1=1");
        y.tick(0, 96);
        Check.is("run " + run + ": all come", y.count(5), many);
        Check.is("run " + run + ": nobody is late", y.count(4), 0);
        for (int i = 0; i < many; i++) {
            for (int o = 0; o < i; o++) {
                boolean apart = x.plan(i) + lasts[i] <= x.plan(o) || x.plan(o) + lasts[o] <= x.plan(i);
                Check.is("nobody is twice at a time", person[i] == person[o] && !apart, false);
            }
        }
    }

    // ---- rings ----

    private static AfterTheLast waiting(int run) {
        Random chance = new Random(run);
        AfterTheLast x = Check.with("house last 6 9;house first 6 9;house free 6 9");
        for (int i = 0; i < 12; i++) {
            x.come(chance.nextInt(12), chance.nextInt(3));
        }
        for (int i = 0; i < 9; i++) {
            x.waits(chance.nextInt(12), chance.nextInt(12));
        }
        return x;
    }

    private static void letOut(AfterTheLast x, int set) {
        for (int p = 0; p < 12; p++) {
            if ((set >> p & 1) == 1) {
                x.go(p, true);
                x.waits(p, -1);
            }
        }
    }

    private static void undoneLetOutByHand(int run) {
        AfterTheLast x = waiting(run);
        int undone = x.rings(2);
        int many = x.rings(3);
        Check.is("how many", many, Integer.bitCount(undone));
        Check.is("they are stuck", undone & ~x.rings(1), 0);
        Check.is("a ring if any are stuck", x.rings(0) > 0, x.rings(1) != 0);
        for (int set = 0; set < 4096; set++) {
            boolean rival = Integer.bitCount(set) < many || (Integer.bitCount(set) == many && set < undone);
            if (rival && (set & ~x.rings(1)) == 0) {
                AfterTheLast y = waiting(run);
                letOut(y, set);
                Check.is("run " + run + ": a ring without " + set, y.rings(0) > 0, true);
            }
        }
        letOut(x, undone);
        Check.is("run " + run + ": no ring is left", x.rings(0), 0);
        Check.is("run " + run + ": nobody is stuck", x.rings(1), 0);
    }

    /** Whoever needs nobody goes, again and again; those who then are still inside are the stuck ones. */
    private static void stuckAreThoseWhoStay(int run) {
        AfterTheLast x = waiting(run);
        int stuck = x.rings(1);
        boolean again = true;
        while (again) {
            again = false;
            for (int p = 0; p < 12; p++) {
                // who waits for one outside, or who has gone, waits for nobody any more
                int awaited = x.person(p, 4);
                if (awaited >= 0 && (x.person(awaited, 0) < 0 || x.person(awaited, 0) == x.person(p, 0))) {
                    x.waits(p, -1);
                }
                if (x.person(p, 2) == 1 && x.person(p, 4) < 0) {
                    again |= x.go(p, false);
                }
            }
        }
        int left = 0;
        for (int p = 0; p < 12; p++) {
            left |= x.person(p, 0) >= 0 ? 1 << p : 0;
        }
        Check.is("run " + run + ": stuck", stuck, left);
    }

    // ---- who went ----

    private static boolean comesAndGoes(List<Integer> order, List<Integer> row) {
        AfterTheLast x = Check.with("house last 12 0");
        int gone = 0;
        for (int person : order) {
            x.come(person, 0);
            while (gone < row.size() && x.go(row.get(gone), false)) {
                gone++;
            }
        }
        return gone == row.size();
    }

    private static void orders(List<Integer> left, List<Integer> order, List<Integer> row, int[][] facts, List<List<Integer>> found) {
        if (left.isEmpty()) {
            boolean kept = comesAndGoes(order, row);
            for (int[] fact : facts) {
                int one = order.indexOf(fact[0]);
                int other = order.indexOf(fact[1]);
                kept &= one < 0 || other < 0 || one < other;
            }
            if (kept) {
                found.add(new ArrayList<>(order));
            }
            return;
        }
        for (int i = 0; i < left.size(); i++) {
            List<Integer> rest = new ArrayList<>(left);
            order.add(rest.remove(i));
            orders(rest, order, row, facts, found);
            order.remove(order.size() - 1);
        }
    }

    private static void ordersComeAndGoByHand(int run) {
        Random chance = new Random(run);
        AfterTheLast x = new AfterTheLast();
        List<Integer> row = new ArrayList<>();
        int many = chance.nextInt(6);
        while (row.size() < many) {
            int person = chance.nextInt(12);
            if (!row.contains(person)) {
                row.add(person);
                x.went(person);
            }
        }
        int[][] facts = new int[chance.nextInt(4)][];
        for (int i = 0; i < facts.length; i++) {
            int one = many > 0 && chance.nextBoolean() ? row.get(chance.nextInt(many)) : chance.nextInt(12);
            int other = many > 0 ? row.get(chance.nextInt(many)) : 11 - one;
            facts[i] = new int[] {one, one == other ? (other + 1) % 12 : other};
            x.before(facts[i][0], facts[i][1]);
        }
        List<Integer> sorted = new ArrayList<>(row);
        sorted.sort(null);
        List<List<Integer>> found = new ArrayList<>();
        orders(sorted, new ArrayList<>(), row, facts, found);
        Check.is("run " + run + ": how many orders", x.orders(-1), found.size());
        for (int k = 0; k < many; k++) {
            Check.is("run " + run + ": who came " + k, x.orders(k), found.isEmpty() ? -2 : found.get(0).get(k));
        }
    }

    // ---- guests ----

    /** Person 0 alone till a quarter, and those of the guests who are asked, by a rule: when he goes. */
    private static int goesAt(int goes, List<int[]> guests, int asked) {
        StringBuilder b = new StringBuilder("house last 12 0;stay 0 0 0 " + goes + " 0");
        for (int g = 0; g < guests.size(); g++) {
            if ((asked >> g & 1) == 1) {
                b.append(";stay ").append(g + 1).append(" 0 ").append(guests.get(g)[0]).append(' ').append(guests.get(g)[1]).append(" 0");
            }
        }
        AfterTheLast x = Check.with(b.toString());
        Check.rule(x, "come person = 0 or inside > 0");
        x.tick(0, 1);
        while (x.person(0, 0) == 0 && x.count(3) < 96) {
            x.tick(0, 1);
        }
        // he went in the quarter ahead of NOW
        return x.person(0, 0) == 0 ? 96 : x.count(3) - 1;
    }

    private static void keptByGuestsWhoCome(int run) {
        Random chance = new Random(run);
        AfterTheLast x = new AfterTheLast();
        List<int[]> guests = new ArrayList<>();
        int many = chance.nextInt(6);
        for (int g = 0; g < many; g++) {
            int come = chance.nextInt(30);
            guests.add(new int[] {come, come + 1 + chance.nextInt(20)});
            x.guest(come, guests.get(g)[1]);
        }
        int goes = 1 + chance.nextInt(15);
        int[] at = new int[1 << many];
        for (int asked = 0; asked < 1 << many; asked++) {
            at[asked] = goesAt(goes, guests, asked);
        }
        for (int till = 0; till < 60; till++) {
            int best = -1;
            for (int asked = 0; asked < 1 << many; asked++) {
                if (at[asked] >= till && (best < 0 || Integer.bitCount(asked) < Integer.bitCount(best))) {
                    best = asked;
                }
            }
            Check.is("run " + run + ": kept till " + till, x.kept(goes, till, 0), best < 0 ? -2 : Integer.bitCount(best));
            Check.is("run " + run + ": by whom till " + till, x.kept(goes, till, 1), best < 0 ? -2 : best);
        }
    }

    private static void knocksDownwards(int run) {
        Random chance = new Random(run);
        AfterTheLast x = new AfterTheLast();
        int c = run % 17;
        int n = 1 + chance.nextInt(run % 2 == 0 ? 5 : 95);
        int w = chance.nextInt(100);
        int e = chance.nextInt(96);
        Check.is("at e", x.knocks(c, n, w, e, e, 0), 0);
        Check.is("none is let in at e", x.knocks(c, n, w, e, e, 1), 0);
        for (int t = 0; t < e; t++) {
            long not = x.knocks(c, n, w, e, t + 1, 0);
            long let = t + n <= e ? 1000 * w + x.knocks(c, n, w, e, t + n, 0) : -1;
            Check.is("run " + run + ": value at " + t, x.knocks(c, n, w, e, t, 0), (c * Math.max(not, let) + (16 - c) * not) / 16);
            Check.is("run " + run + ": let at " + t, x.knocks(c, n, w, e, t, 1), let > not ? 1 : 0);
        }
    }

    /** What the last can ask is what all the others would pay, whoever the last is. */
    private static void asksOfTheOthers(int run) {
        AfterTheLast x = waiting(run);
        Random chance = new Random(run);
        for (int p = 0; p < 12; p++) {
            x.worth(p, chance.nextInt(100));
        }
        for (int i = 0; i < 6; i++) {
            int last = x.house(0, 4);
            int due = 0;
            for (int p = 0; p < 12; p++) {
                due += x.person(p, 0) == 0 && p != last ? x.person(p, 5) : 0;
            }
            Check.is("run " + run + ": asks", x.asks(0), due);
            Check.is("of the law first", x.asks(1), 0);
            Check.is("of the law free", x.asks(2), 0);
            x.go(last, false);
        }
    }
}

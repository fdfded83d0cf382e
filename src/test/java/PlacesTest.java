/** Promises 1 (a new object), 6 (house), 7 (stay), 8 (person), 9 (come), 10 (go), 32 (count). */
public final class PlacesTest {
    public static void main(String[] args) {
        aNewObject();
        housesAndStays();
        lawLast();
        lawFirst();
        lawFree();
        windows();
        whoCannotCome();
        counts();
        Check.done();
    }

    private static void aNewObject() {
        AfterTheLast x = new AfterTheLast();
        for (int what = 0; what < 14; what++) {
            Check.is("count " + what, x.count(what), 0);
        }
        Check.is("NONE", AfterTheLast.NONE, -1);
        Check.is("no house", x.house(0, 0), -1);
        Check.is("no stay", x.stay(0, 0), -1);
        int[] due = {-1, -1, 0, 0, -1, 0};
        for (int what = 0; what < 6; what++) {
            Check.is("person " + what, x.person(3, what), due[what]);
        }
        Check.is("nowhere to come", x.come(0, 0), false);
        Check.is("nowhere to go from", x.go(0, false), false);
        Check.is("no rule to tick by", x.tick(0, 1), -1);
        Check.is("no rule to look ahead by", x.ahead(0, 0, 0), -1);
        Check.is("no best rule", x.bestRule(), -2);
        Check.is("no evenings", x.evenings(0, 1, 0), -1);
        Check.is("no set but the empty one", x.fits(0, 0, 0), 1);
        Check.is("no set of one", x.fits(1, 0, 0), -1);
        Check.is("no house for most", x.most(0, 0), -1);
        Check.is("one plan", x.plan(6), 1);
        Check.is("no ring", x.rings(0), 0);
        Check.is("one order", x.orders(-1), 1);
        Check.is("no image", x.back(0), -1);
    }

    private static void housesAndStays() {
        AfterTheLast x = Check.with("house last 3 1;house first 12 9;house free 1 0;stay 11 1 3 95 99;stay 0 2 0 1 0");
        int[][] houses = {{0, 3, 1, 0, -1, -1}, {1, 12, 9, 0, -1, -1}, {2, 1, 0, 0, -1, -1}};
        for (int h = 0; h < 3; h++) {
            for (int what = 0; what < 6; what++) {
                Check.is("house " + h + " " + what, x.house(h, what), houses[h][what]);
            }
            Check.is("house " + h + " -1", x.house(h, -1), -1);
            Check.is("house " + h + " 6", x.house(h, 6), -1);
        }
        Check.is("house 3", x.house(3, 0), -1);
        Check.is("house -1", x.house(-1, 0), -1);
        int[][] stays = {{11, 1, 3, 95, 99, 0}, {0, 2, 0, 1, 0, 0}};
        for (int s = 0; s < 2; s++) {
            for (int what = 0; what < 6; what++) {
                Check.is("stay " + s + " " + what, x.stay(s, what), stays[s][what]);
            }
            Check.is("stay " + s + " -1", x.stay(s, -1), -1);
            Check.is("stay " + s + " 6", x.stay(s, 6), -1);
        }
        Check.is("stay 2", x.stay(2, 0), -1);
        Check.is("stay -1", x.stay(-1, 0), -1);
        Check.is("person -1", x.person(-1, 0), -2);
        Check.is("person 12", x.person(12, 0), -2);
        Check.is("person what -1", x.person(0, -1), -2);
        Check.is("person what 6", x.person(0, 6), -2);
    }

    /** Whether he is where, who may go, how many came after. */
    private static void where(AfterTheLast x, int person, int house, int may, int after) {
        Check.is("house of " + person, x.person(person, 0), house);
        Check.is("stay of " + person, x.person(person, 1), -1);
        Check.is("may " + person, x.person(person, 2), may);
        Check.is("after " + person, x.person(person, 3), after);
    }

    private static void inside(AfterTheLast x, int house, int many, int last, int first) {
        Check.is("inside " + house, x.house(house, 3), many);
        Check.is("last in " + house, x.house(house, 4), last);
        Check.is("first in " + house, x.house(house, 5), first);
    }

    private static void threeCome(AfterTheLast x) {
        Check.is("7 comes", x.come(7, 0), true);
        Check.is("2 comes", x.come(2, 0), true);
        Check.is("9 comes", x.come(9, 0), true);
        inside(x, 0, 3, 9, 7);
    }

    private static void lawLast() {
        AfterTheLast x = Check.with("house last 3 0;house last 1 0");
        threeCome(x);
        where(x, 7, 0, 0, 2);
        where(x, 2, 0, 0, 1);
        where(x, 9, 0, 1, 0);
        where(x, 1, -1, 0, 0);
        String was = Check.state(x);
        Check.is("the first may not go", x.go(7, false), false);
        Check.is("the middle one may not go", x.go(2, false), false);
        Check.same("go", x, was);
        Check.is("the last goes", x.go(9, false), true);
        inside(x, 0, 2, 2, 7);
        where(x, 9, -1, 0, 0);
        Check.is("he is outside", x.go(9, false), false);
        Check.is("he comes elsewhere", x.come(9, 1), true);
        where(x, 9, 1, 1, 0);
        Check.is("then the middle one", x.go(2, false), true);
        Check.is("then the first", x.go(7, false), true);
        inside(x, 0, 0, -1, -1);
    }

    private static void lawFirst() {
        AfterTheLast x = Check.with("house first 3 0");
        threeCome(x);
        where(x, 7, 0, 1, 2);
        where(x, 2, 0, 0, 1);
        where(x, 9, 0, 0, 0);
        Check.is("the last may not go", x.go(9, false), false);
        Check.is("the middle one may not go", x.go(2, false), false);
        Check.is("the first goes", x.go(7, false), true);
        inside(x, 0, 2, 9, 2);
        Check.is("then the middle one", x.go(2, false), true);
        Check.is("then the last", x.go(9, false), true);
    }

    private static void lawFree() {
        AfterTheLast x = Check.with("house free 3 0");
        threeCome(x);
        where(x, 7, 0, 1, 2);
        where(x, 2, 0, 1, 1);
        where(x, 9, 0, 1, 0);
        Check.is("the middle one goes", x.go(2, false), true);
        inside(x, 0, 2, 9, 7);
        where(x, 7, 0, 1, 1);
        Check.is("he comes again, behind the others", x.come(2, 0), true);
        inside(x, 0, 3, 2, 7);
        Check.is("the first goes", x.go(7, false), true);
        inside(x, 0, 2, 2, 9);
    }

    private static void windows() {
        AfterTheLast x = Check.with("house last 5 2;house last 5 0");
        threeCome(x);
        x.come(4, 1);
        Check.is("by a window without the law", x.go(2, true), true);
        inside(x, 0, 2, 9, 7);
        Check.is("one window less", x.house(0, 2), 1);
        Check.is("by a window though he may", x.go(9, true), true);
        Check.is("no window left", x.house(0, 2), 0);
        String was = Check.state(x);
        Check.is("there is none", x.go(7, true), false);
        Check.is("nor there", x.go(4, true), false);
        Check.is("outside there is none", x.go(1, true), false);
        Check.is("nobody", x.go(-1, true), false);
        Check.is("nobody else", x.go(12, false), false);
        Check.same("go", x, was);
        Check.is("but by the door", x.go(7, false), true);
        Check.is("still none left", x.house(0, 2), 0);
    }

    private static void whoCannotCome() {
        AfterTheLast x = Check.with("house last 2 0;house free 12 0");
        x.come(0, 0);
        x.come(1, 0);
        String was = Check.state(x);
        Check.is("no room", x.come(2, 0), false);
        Check.is("he is inside", x.come(0, 1), false);
        Check.is("he is inside there", x.come(0, 0), false);
        Check.is("no house", x.come(2, 2), false);
        Check.is("no house below", x.come(2, -1), false);
        Check.is("nobody", x.come(12, 1), false);
        Check.is("nobody below", x.come(-1, 1), false);
        Check.same("come", x, was);
        x.go(1, false);
        Check.is("room again", x.come(2, 0), true);
        x.go(2, false);
        x.go(0, false);
        for (int p = 0; p < 12; p++) {
            Check.is("all twelve", x.come(p, 1), true);
        }
        inside(x, 1, 12, 11, 0);
    }

    private static void counts() {
        AfterTheLast x = Check.with("house free 2 0;house free 3 0;stay 0 0 0 2 1;stay 1 0 1 3 1;stay 2 0 5 9 1");
        Check.rule(x, "come person = 0");
        Check.rule(x, "come now = 77");
        x.come(8, 1);
        x.tick(0, 1);
        int[] due = {2, 3, 2, 1, 0, 1, 0, 2};
        for (int what = 0; what < due.length; what++) {
            Check.is("count " + what, x.count(what), due[what]);
        }
        x.tick(0, 2);
        // stay 0 is over and he is gone; stay 1 was not begun till 3
        Check.is("served", x.count(5), 1);
        Check.is("missed", x.count(6), 1);
        Check.is("inside", x.count(7), 1);
        x.tick(1, 6);
        Check.is("missed two", x.count(6), 2);
        Check.is("count -1", x.count(-1), -1);
        Check.is("count 14", x.count(14), -1);
        x.wishes(0, 0, 0, 1, 1);
        x.wishes(0, 0, 0, 1, 1);
        x.went(1);
        x.before(1, 2);
        x.before(1, 2);
        x.before(1, 2);
        x.guest(1, 2);
        x.seed(5);
        x.feed(0, 0, 0, 0, 0);
        int[] told = {2, 1, 3, 1, 5, 20};
        for (int what = 8; what < 14; what++) {
            Check.is("count " + what, x.count(what), told[what - 8]);
        }
    }
}

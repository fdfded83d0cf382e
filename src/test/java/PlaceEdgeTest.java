/** The boundary cases of promises 6 (house), 7 (stay), 8 (person), 9 (come), 10 (go) and 32 (count). */
public final class PlaceEdgeTest {
    public static void main(String[] args) {
        ofAHouse();
        ofAStay();
        ofAPerson();
        whoMayGo();
        oneAlone();
        twelveInAHouse();
        oneHouseAtATime();
        whoComes();
        whoCannotCome();
        whoGoes();
        whoCannotGo();
        byTheLastWindow();
        servedAndMissed();
        counts();
        Check.done();
    }

    private static void ofAHouse() {
        Doc.says("Of a HOUSE what 0: law (0 last, 1 first, 2 free), 1: room, 2: windows left, 3: PEOPLE inside, 4: who came last of them, 5: who came first (NONE: nobody). NONE without these.");
        AfterTheLast x = Check.with("house last 1 0;house first 12 9;house free 5 5");
        int[][] due = {{0, 1, 0, 0, -1, -1}, {1, 12, 9, 0, -1, -1}, {2, 5, 5, 0, -1, -1}};
        for (int h = 0; h < 3; h++) {
            for (int what = 0; what < 6; what++) {
                Check.is("house " + h + ", " + what, x.house(h, what), due[h][what]);
            }
        }
        x.come(0, 0);
        x.come(11, 1);
        x.come(5, 1);
        Check.is("one alone came last", x.house(0, 4), 0);
        Check.is("one alone came first", x.house(0, 5), 0);
        Check.is("who came last", x.house(1, 4), 5);
        Check.is("who came first", x.house(1, 5), 11);
        x.go(0, false);
        Check.is("nobody came last", x.house(0, 4), -1);
        Check.is("nobody came first", x.house(0, 5), -1);
        int[][] none = {{3, 0}, {3, 4}, {-1, 0}, {6, 0}, {Integer.MAX_VALUE, 0}, {Integer.MIN_VALUE, 0}, {0, -1}, {0, 6},
            {0, Integer.MAX_VALUE}, {0, Integer.MIN_VALUE}, {3, 6}};
        for (int[] ask : none) {
            Twins.leave("house " + ask[0] + ", " + ask[1], Twins::some, y -> y.house(ask[0], ask[1]), -1);
        }
        for (int h = 0; h < 3; h++) {
            for (int what = 0; what < 6; what++) {
                int house = h;
                int w = what;
                AfterTheLast y = new AfterTheLast();
                Twins.some(y);
                Twins.leave("house " + h + ", " + what, Twins::some, z -> z.house(house, w), y.house(h, what));
            }
        }
        Check.is("without a street", new AfterTheLast().house(0, 0), -1);
    }

    private static void ofAStay() {
        Doc.says("Of a STAY what 0: person, 1: HOUSE, 2: from, 3: till, 4: worth, 5: 1 if it was begun, else 0. NONE without these.");
        AfterTheLast x = Check.with("house free 1 0;house free 1 0;stay 11 1 94 95 99;stay 0 0 0 1 0");
        int[][] due = {{11, 1, 94, 95, 99, 0}, {0, 0, 0, 1, 0, 0}};
        for (int s = 0; s < 2; s++) {
            for (int what = 0; what < 6; what++) {
                Check.is("stay " + s + ", " + what, x.stay(s, what), due[s][what]);
            }
        }
        Check.rule(x, "come 1=1");
        x.tick(0, 1);
        Check.is("begun", x.stay(1, 5), 1);
        Check.is("not begun", x.stay(0, 5), 0);
        x.tick(0, 1);
        Check.is("over, but it was begun", x.stay(1, 5), 1);
        int[][] none = {{5, 0}, {-1, 0}, {18, 0}, {Integer.MAX_VALUE, 5}, {Integer.MIN_VALUE, 5}, {0, -1}, {0, 6},
            {0, Integer.MAX_VALUE}, {0, Integer.MIN_VALUE}, {5, 6}};
        for (int[] ask : none) {
            Twins.leave("stay " + ask[0] + ", " + ask[1], Twins::some, y -> y.stay(ask[0], ask[1]), -1);
        }
        Twins.leave("the last stay", Twins::some, y -> y.stay(4, 3), 95);
        Check.is("without a street", new AfterTheLast().stay(0, 0), -1);
        Check.is("a street without stays", Check.with("house free 1 0").stay(0, 0), -1);
    }

    private static void ofAPerson() {
        Doc.says("Of a person what 0: HOUSE (NONE: outside), 1: his STAY there (NONE: none, or by hand), 2: 1 if he MAY go, else 0, 3: how many came in after him there, 4: for whom he WAITS (NONE), 5: worth of going. -2 without these.");
        AfterTheLast x = new AfterTheLast();
        Twins.some(x);
        int[][] due = {{0, 0, 0, 0, 2, 1, 5}, {1, 1, 1, 1, 1, -1, 0}, {2, 0, 2, 0, 1, -1, 31}, {7, 0, -1, 1, 0, -1, 0},
            {8, 1, -1, 0, 0, 0, 0}, {9, 2, -1, 1, 0, -1, 0}, {11, -1, -1, 0, 0, -1, 0}, {5, -1, -1, 0, 0, -1, 0}};
        for (int[] row : due) {
            for (int what = 0; what < 6; what++) {
                Check.is("person " + row[0] + ", " + what, x.person(row[0], what), row[what + 1]);
            }
        }
        int[][] none = {{12, 0}, {-1, 0}, {-1, 1}, {12, 5}, {Integer.MAX_VALUE, 0}, {Integer.MIN_VALUE, 0}, {0, -1}, {0, 6},
            {0, Integer.MAX_VALUE}, {0, Integer.MIN_VALUE}, {12, 6}};
        for (int[] ask : none) {
            Twins.leave("person " + ask[0] + ", " + ask[1], Twins::some, y -> y.person(ask[0], ask[1]), -2);
        }
        for (int what = 0; what < 6; what++) {
            int w = what;
            Twins.leave("person 8, " + what, Twins::some, y -> y.person(8, w), due[4][what + 1]);
        }
    }

    private static void whoMayGo() {
        Doc.says("One MAY go: law last: if he came last of those there; first: if he came first of them; free: always.");
        int[][] may = {{0, 0, 1}, {1, 0, 0}, {1, 1, 1}};
        String[] laws = {"last", "first", "free"};
        for (int law = 0; law < 3; law++) {
            for (int goes = 0; goes < 3; goes++) {
                AfterTheLast x = Check.with("house " + laws[law] + " 3 0");
                for (int p = 0; p < 3; p++) {
                    x.come(9 - p, 0);
                }
                Check.is(laws[law] + " may " + goes, x.person(9 - goes, 2), may[law][goes]);
                Check.is(laws[law] + " goes " + goes, x.go(9 - goes, false), may[law][goes] == 1);
                Check.is(laws[law] + " inside", x.house(0, 3), 3 - may[law][goes]);
                Check.is("outside nobody may", x.person(1, 2), 0);
            }
        }
    }

    private static void oneAlone() {
        for (String law : new String[] {"last", "first", "free"}) {
            AfterTheLast x = Check.with("house " + law + " 1 0");
            Check.is("comes", x.come(0, 0), true);
            Check.is("may go", x.person(0, 2), 1);
            Check.is("nobody after him", x.person(0, 3), 0);
            Check.is("no place for another one", x.come(1, 0), false);
            Check.is("goes", x.go(0, false), true);
            Check.is("may not go outside", x.person(0, 2), 0);
            Check.is("a place again", x.come(1, 0), true);
        }
    }

    private static void twelveInAHouse() {
        Doc.says("IN A HOUSE are those who are there, in the order they came.");
        String[] laws = {"last", "first", "free"};
        for (int law = 0; law < 3; law++) {
            AfterTheLast x = Check.with("house " + laws[law] + " 12 0");
            for (int i = 0; i < 12; i++) {
                Check.is("comes", x.come(i * 5 % 12, 0), true);
            }
            for (int i = 0; i < 12; i++) {
                Check.is("after", x.person(i * 5 % 12, 3), 11 - i);
                Check.is("may", x.person(i * 5 % 12, 2), law == 2 || i == (law == 0 ? 11 : 0) ? 1 : 0);
            }
            for (int i = 0; i < 12; i++) {
                int next = (law == 0 ? 11 - i : i) * 5 % 12;
                Check.is("goes", x.go(next, false), true);
                Check.is("inside", x.count(7), 11 - i);
            }
            Check.is("nobody", x.house(0, 5), -1);
        }
    }

    private static void oneHouseAtATime() {
        Doc.says("A person is in one HOUSE at a time, or outside.");
        AfterTheLast x = Check.with("house free 1 0;house free 1 0");
        Check.is("comes", x.come(4, 1), true);
        Check.is("nowhere else", x.come(4, 0), false);
        Check.is("not again", x.come(4, 1), false);
        Check.is("there", x.person(4, 0), 1);
        Check.is("inside", x.count(7), 1);
        Check.is("the other one is empty", x.house(0, 3), 0);
    }

    private static void whoComes() {
        Doc.says("One comes BY HAND: true; false, and nothing happens, without these.");
        for (int room = 1; room <= 12; room++) {
            AfterTheLast x = Check.with("house last " + room + " 0");
            for (int p = 0; p < 12; p++) {
                Check.is("room " + room + ": " + p, x.come(p, 0), p < room);
            }
            Check.is("full", x.house(0, 3), room);
            Check.is("by hand", x.person(0, 1), -1);
        }
        AfterTheLast six = Check.with("house free 1 0;".repeat(5) + "house free 1 0");
        for (int h = 0; h < 6; h++) {
            Check.is("house " + h, six.come(11 - h, h), true);
        }
        AfterTheLast behind = Check.with("house free 1 0");
        Check.rule(behind, "come 1=1");
        behind.tick(0, 96);
        Check.is("at 96 too", behind.come(0, 0), true);
    }

    private static void whoCannotCome() {
        // house 0 holds 0, 2, 7 and room for one; house 1 holds 1, 8; house 2 holds 9
        int[][] none = {{-1, 0}, {12, 0}, {Integer.MIN_VALUE, 0}, {Integer.MAX_VALUE, 0}, {3, -1}, {3, 3}, {3, 6},
            {3, Integer.MIN_VALUE}, {3, Integer.MAX_VALUE}, {0, 0}, {0, 1}, {7, 1}, {9, 2}, {12, 3}};
        for (int[] ask : none) {
            Twins.leave("come " + ask[0] + ", " + ask[1], Twins::some, x -> x.come(ask[0], ask[1]) ? 1 : 0, 0);
        }
        Twins.leave("no room", x -> { Twins.some(x); x.come(3, 0); }, x -> x.come(4, 0) ? 1 : 0, 0);
        Twins.leave("without a street", x -> { }, x -> x.come(0, 0) ? 1 : 0, 0);
    }

    private static void whoGoes() {
        Doc.says("One goes BY HAND (by a WINDOW or not): true; false, and nothing happens: he is outside, MAY not, or there is no WINDOW.");
        AfterTheLast x = new AfterTheLast();
        Twins.some(x);
        Check.is("who came last, by the door", x.go(7, false), true);
        Check.is("the windows are as they were", x.house(0, 2), 1);
        Check.is("who came first, by the window", x.go(0, true), true);
        Check.is("one window less", x.house(0, 2), 0);
        Check.is("he is outside", x.person(0, 0), -1);
        Check.is("he has no stay", x.person(0, 1), -1);
        Check.is("his stay was begun", x.stay(0, 5), 1);
        Check.is("by the law first, who came first", x.go(1, false), true);
        Check.is("then the other one", x.go(8, false), true);
        Check.is("who is alone, by a window", x.go(9, true), true);
        Check.is("one window less", x.house(2, 2), 8);
    }

    private static void whoCannotGo() {
        int[] nobody = {-1, 12, Integer.MIN_VALUE, Integer.MAX_VALUE, 3, 11};
        for (int p : nobody) {
            Twins.leave("outside: " + p, Twins::some, x -> x.go(p, false) ? 1 : 0, 0);
            Twins.leave("outside, by a window: " + p, Twins::some, x -> x.go(p, true) ? 1 : 0, 0);
        }
        for (int p : new int[] {0, 2, 8}) {
            Twins.leave("may not: " + p, Twins::some, x -> x.go(p, false) ? 1 : 0, 0);
        }
        Twins.leave("no window, and may not", Twins::some, x -> x.go(8, true) ? 1 : 0, 0);
        Twins.leave("no window, though he may", Twins::some, x -> x.go(1, true) ? 1 : 0, 0);
        Twins.leave("without a street", x -> { }, x -> x.go(0, true) ? 1 : 0, 0);
        Twins.leave("without a street", x -> { }, x -> x.go(0, false) ? 1 : 0, 0);
    }

    private static void byTheLastWindow() {
        Doc.says("By a WINDOW he goes without that, if the HOUSE has one left (one less then).");
        AfterTheLast x = Check.with("house last 12 9;house last 12 0");
        for (int p = 0; p < 12; p++) {
            x.come(p, 0);
        }
        for (int p = 0; p < 9; p++) {
            Check.is("by a window", x.go(p, true), true);
            Check.is("windows left", x.house(0, 2), 8 - p);
        }
        Check.is("no tenth one", x.go(9, true), false);
        Check.is("not even for who may go", x.go(11, true), false);
        Check.is("by the door", x.go(11, false), true);
        Check.is("three less one", x.house(0, 3), 2);
        Check.is("comes again", x.come(0, 0), true);
        Check.is("a coming makes no window", x.house(0, 2), 0);
    }

    private static void servedAndMissed() {
        Doc.says("BY HAND: one comes (outside, room), goes (he MAY), goes by a WINDOW. SERVED: STAYS that were begun. MISSED: those not begun whose till is not above NOW.");
        AfterTheLast x = Check.with("house free 9 9;stay 0 0 0 2 0;stay 1 0 0 3 0;stay 2 0 0 95 0");
        Check.rule(x, "come person=0");
        x.come(1, 0);
        for (int now = 1; now <= 4; now++) {
            x.tick(0, 1);
            Check.is("served at " + now, x.count(5), 1);
            Check.is("missed at " + now, x.count(6), now < 3 ? 0 : 1);
            Check.is("who is there by hand has begun nothing", x.stay(1, 5), 0);
        }
        x.tick(0, 90);
        Check.is("missed at 94", x.count(6), 1);
        x.tick(0, 1);
        Check.is("missed at 95", x.count(6), 2);
        x.tick(0, 1);
        Check.is("missed at 96", x.count(6), 2);
    }

    private static void counts() {
        Doc.says("What 0: HOUSES, 1: STAYS, 2: RULES, 3: NOW, 4: LATE, 5: SERVED, 6: MISSED, 7: PEOPLE inside, 8: WISHES, 9: WENT, 10: AHEAD facts, 11: GUESTS, 12: x, 13: bytes of the TAPE. NONE for others.");
        int[] due = {3, 5, 2, 3, 0, 3, 0, 6, 2, 3, 1, 2, 4712, 29};
        for (int what = 0; what < 14; what++) {
            int w = what;
            Check.is("of nothing: " + what, new AfterTheLast().count(what), 0);
            Twins.leave("count " + what, Twins::some, x -> x.count(w), due[what]);
        }
        for (int what : new int[] {-1, 14, Integer.MAX_VALUE, Integer.MIN_VALUE}) {
            Twins.leave("count " + what, Twins::some, x -> x.count(what), -1);
        }
    }
}

/** Promises 20 (waits), 21 (rings), 22 (worth) and 23 (asks). */
public final class RingTest {
    public static void main(String[] args) {
        telling();
        tillBothAreThere();
        byRuleToo();
        twoWhoWait();
        aRingOfFour();
        aRingOfAll();
        theShortest();
        whoNeedsNobody();
        undoneOfSeveral();
        worths();
        asking();
        Check.done();
    }

    private static void telling() {
        AfterTheLast x = new AfterTheLast();
        Check.is("for nobody before", x.waits(3, 4), -1);
        Check.is("told", x.person(3, 4), 4);
        Check.is("for 4 before", x.waits(3, 5), 4);
        Check.is("for 5 before", x.waits(3, -1), 5);
        Check.is("for nobody", x.person(3, 4), -1);
        x.waits(3, 7);
        String was = Check.state(x);
        Check.is("for himself", x.waits(3, 3), -2);
        Check.is("for 12", x.waits(3, 12), -2);
        Check.is("for -2", x.waits(3, -2), -2);
        Check.is("12", x.waits(12, 3), -2);
        Check.is("-1", x.waits(-1, 3), -2);
        Check.is("-1 for -1", x.waits(-1, -1), -2);
        Check.same("waits", x, was);
    }

    private static void tillBothAreThere() {
        AfterTheLast x = Check.with("house free 9 9;house free 9 9");
        x.waits(0, 1);
        x.waits(1, 2);
        x.come(0, 0);
        Check.is("he came where the other one is not", x.person(0, 4), 1);
        x.come(1, 1);
        Check.is("the other one came elsewhere", x.person(0, 4), 1);
        x.go(1, false);
        x.come(1, 0);
        Check.is("both are there", x.person(0, 4), -1);
        Check.is("he still waits himself", x.person(1, 4), 2);
        x.waits(3, 0);
        x.come(3, 0);
        Check.is("who waits comes himself", x.person(3, 4), -1);
        x.waits(3, 0);
        Check.is("told while both are there", x.person(3, 4), 0);
        x.come(4, 0);
        Check.is("another one's coming is nothing to him", x.person(3, 4), 0);
        Check.is("but he does not need him", x.rings(1), 0);
        x.go(0, false);
        Check.is("a going ends nothing", x.person(3, 4), 0);
        x.come(0, 0);
        Check.is("a coming does", x.person(3, 4), -1);
        x.waits(5, 0);
        x.waits(6, 0);
        x.come(5, 1);
        x.come(6, 0);
        Check.is("5 waits", x.person(5, 4), 0);
        Check.is("6 came to him", x.person(6, 4), -1);
    }

    private static void byRuleToo() {
        AfterTheLast x = Check.with("house free 9 9;stay 1 0 2 4 0");
        Check.rule(x, "come 1=1");
        x.waits(0, 1);
        x.come(0, 0);
        x.ahead(0, 9, 0);
        x.bestRule();
        x.evenings(0, 3, 0);
        Check.is("he waits", x.person(0, 4), 1);
        x.tick(0, 2);
        Check.is("he waits at 2", x.person(0, 4), 1);
        x.tick(0, 1);
        Check.is("the other one came by a rule", x.person(0, 4), -1);
    }

    private static void rings(String name, AfterTheLast x, int shortest, int stuck, int undone, int many) {
        Check.is(name + ": shortest", x.rings(0), shortest);
        Check.is(name + ": stuck", x.rings(1), stuck);
        Check.is(name + ": undone", x.rings(2), undone);
        Check.is(name + ": how many", x.rings(3), many);
    }

    private static void twoWhoWait() {
        AfterTheLast x = Check.with("house free 9 9;house free 9 9");
        rings("nobody", x, 0, 0, 0, 0);
        x.waits(4, 6);
        x.waits(6, 4);
        rings("outside they need nobody", x, 0, 0, 0, 0);
        x.come(4, 0);
        rings("one of them inside", x, 0, 0, 0, 0);
        x.come(6, 1);
        rings("both inside, not together", x, 2, 16 + 64, 16, 1);
        x.waits(7, 4);
        rings("one outside is not stuck", x, 2, 16 + 64, 16, 1);
        x.come(7, 1);
        rings("one inside who waits for one in a ring", x, 2, 16 + 64 + 128, 16, 1);
        Check.is("what -1", x.rings(-1), -1);
        Check.is("what 4", x.rings(4), -1);
        x.go(4, false);
        rings("one of them outside", x, 0, 0, 0, 0);
    }

    private static void aRingOfFour() {
        AfterTheLast x = Check.with("house last 9 9;house last 9 9");
        x.come(0, 0);
        x.come(1, 0);
        x.come(2, 1);
        x.come(3, 1);
        x.waits(1, 2);
        rings("1 waits for 2, who needs 3, who may go", x, 0, 0, 0, 0);
        x.waits(3, 0);
        rings("3 waits for 0, who needs 1", x, 4, 15, 1, 1);
        x.come(4, 0);
        // 0 and 1 need 4 too, who may go
        rings("one more at the end", x, 4, 15, 1, 1);
        AfterTheLast y = Check.with("house first 9 9;house last 9 9");
        y.come(0, 0);
        y.come(1, 0);
        y.come(2, 1);
        y.come(3, 1);
        y.waits(1, 2);
        y.waits(3, 0);
        rings("by the law first 0 needs nobody", y, 0, 0, 0, 0);
        y.waits(0, 3);
        rings("0 and 3 wait for one another; 1 needs 0; 2 needs 3", y, 2, 15, 1, 1);
        y.waits(0, -1);
        y.waits(3, 1);
        // 1 needs 0 and 2, 2 needs 3, 3 needs 1
        rings("by the law first 1 needs 0", y, 3, 14, 2, 1);
        AfterTheLast z = Check.with("house first 9 9;house free 9 9");
        z.come(0, 0);
        z.come(1, 0);
        z.come(5, 1);
        z.waits(0, 5);
        z.waits(5, 1);
        rings("by the law first 1 needs 0, who waits for 5, who waits for 1", z, 3, 35, 1, 1);
    }

    private static void aRingOfAll() {
        StringBuilder street = new StringBuilder("house last 9 9");
        for (int h = 1; h < 6; h++) {
            street.append(";house last 9 9");
        }
        AfterTheLast x = Check.with(street.toString());
        for (int p = 0; p < 12; p++) {
            x.come(p, p / 2);
        }
        for (int p = 1; p < 11; p += 2) {
            x.waits(p, p + 1);
        }
        rings("not yet", x, 0, 0, 0, 0);
        x.waits(11, 0);
        rings("all", x, 12, 4095, 1, 1);
    }

    private static void theShortest() {
        AfterTheLast x = Check.with("house free 9 9;house free 9 9;house free 9 9");
        x.come(1, 0);
        x.come(2, 1);
        x.come(3, 2);
        x.waits(1, 2);
        x.waits(2, 3);
        x.waits(3, 1);
        rings("three", x, 3, 14, 2, 1);
        x.come(8, 0);
        x.come(9, 1);
        x.waits(8, 9);
        x.waits(9, 8);
        rings("three and two", x, 2, 14 + 256 + 512, 2 + 256, 2);
    }

    private static void whoNeedsNobody() {
        AfterTheLast x = Check.with("house free 9 9;house last 9 9;house last 9 9");
        // 5 waits for 0, in a free house; 0 waits for 6 in a house in which 7 came after 6; 7 waits for 0
        x.come(5, 0);
        x.come(0, 2);
        x.come(6, 1);
        x.come(7, 1);
        x.waits(5, 0);
        x.waits(0, 6);
        x.waits(7, 0);
        rings("0, 6, 7 in a ring and 5 behind", x, 3, 1 + 32 + 64 + 128, 1, 1);
        // 4 comes after 0: 0 needs him too, he needs nobody
        x.come(4, 2);
        rings("4 is not stuck", x, 3, 1 + 32 + 64 + 128, 1, 1);
    }

    private static void undoneOfSeveral() {
        AfterTheLast x = Check.with("house last 9 0;house last 9 0;house last 9 0");
        // 2 and 1 wait for 0 in two houses, 0 for 1; taking out 0 undoes all
        x.come(9, 0);
        x.come(8, 1);
        x.come(7, 2);
        x.waits(9, 8);
        x.waits(8, 9);
        x.waits(7, 9);
        rings("either of two: the least set", x, 2, 128 + 256 + 512, 256, 1);
        // now 9 is in two rings
        x.come(6, 0);
        x.waits(6, 7);
        // 9 needs 6, 6 needs 7, 7 needs 9; 9 and 8 need one another: 9 alone is in both
        rings("9 is in both", x, 2, 64 + 128 + 256 + 512, 512, 1);
        Check.is("nothing went", x.count(7), 4);
    }

    private static void worths() {
        AfterTheLast x = new AfterTheLast();
        Check.is("0 at first", x.worth(3, 99), 0);
        Check.is("99 before", x.worth(3, 0), 99);
        Check.is("0 before", x.worth(3, 7), 0);
        String was = Check.state(x);
        Check.is("100", x.worth(3, 100), -1);
        Check.is("-1", x.worth(3, -1), -1);
        Check.is("person 12", x.worth(12, 1), -1);
        Check.is("person -1", x.worth(-1, 1), -1);
        Check.same("worth", x, was);
        Check.is("7", x.person(3, 5), 7);
    }

    private static void asking() {
        AfterTheLast x = Check.with("house last 9 0;house first 9 0;house free 9 0");
        for (int p = 0; p < 12; p++) {
            x.worth(p, 10 + p);
        }
        Check.is("nobody there", x.asks(0), 0);
        x.come(3, 0);
        Check.is("nobody else there", x.asks(0), 0);
        x.come(5, 0);
        Check.is("3's", x.asks(0), 13);
        x.come(4, 0);
        Check.is("3's and 5's", x.asks(0), 28);
        x.go(4, false);
        Check.is("3's again", x.asks(0), 13);
        x.go(5, false);
        x.come(0, 0);
        x.come(11, 0);
        Check.is("3's and 0's", x.asks(0), 23);
        x.come(6, 1);
        x.come(7, 1);
        x.come(8, 2);
        x.come(9, 2);
        Check.is("the law first", x.asks(1), 0);
        Check.is("the law free", x.asks(2), 0);
        Check.is("no such house", x.asks(3), -1);
        Check.is("no house below 0", x.asks(-1), -1);
    }
}

/** Two objects that were told the same: one is asked something, and all else they answer is compared. */
final class Twins {
    interface Telling { void tell(AfterTheLast x); }
    interface Asking { long ask(AfterTheLast x); }

    private Twins() { }

    /** That a call answers this and leaves all as it was. */
    static void leave(String call, Telling told, Asking asked, long due) {
        AfterTheLast one = new AfterTheLast();
        told.tell(one);
        AfterTheLast other = new AfterTheLast();
        told.tell(other);
        Check.is(call, asked.ask(one), due);
        Check.is(call + " (nothing happened)", all(one).equals(all(other)), true);
    }

    /** That the telling of one and of the other one comes to the same. */
    static void same(String what, Telling told, Telling toldOtherwise) {
        AfterTheLast one = new AfterTheLast();
        told.tell(one);
        AfterTheLast other = new AfterTheLast();
        toldOtherwise.tell(other);
        Check.is(what, all(one).equals(all(other)), true);
    }

    /** All that an object answers, the tape and the images too; it is changed by that. */
    static String all(AfterTheLast x) {
        StringBuilder b = new StringBuilder(Check.state(x));
        int left = 96 - x.count(3);
        for (int what = 0; what < 4; what++) b.append(x.rings(what)).append(' ');
        for (int h = 0; h < 6; h++) b.append(x.asks(h)).append(' ').append(x.most(h, 1)).append(' ');
        for (int goes = 1; goes < 30; goes++) b.append(x.kept(goes, goes + 4, 1)).append(' ').append(x.kept(goes, 60, 1)).append(' ');
        for (int rule = 0; rule < 6; rule++) {
            for (int what = 0; what < 4; what++) b.append(x.ahead(rule, left, what)).append(' ');
            b.append(x.evenings(rule, 2, 0)).append(' ');
        }
        b.append(x.street()).append(' ').append(x.count(0)).append(' ').append(x.count(1)).append(' ');
        for (int what = 0; what < 5; what++) b.append(x.house(0, what)).append(' ').append(x.stay(0, what)).append(' ');
        for (int k = 0; k < 4; k++) {
            b.append(x.back(k)).append(' ');
            for (int what = 0; what < 13; what++) b.append(x.count(what)).append(' ');
            for (int p = 0; p < 12; p++) b.append(x.person(p, 0)).append(' ');
        }
        return b.toString();
    }

    /** Something of all: people in houses by each law, some for stays, and all else told. */
    static void some(AfterTheLast x) {
        Check.street(x, "house last 4 1;house first 3 0;house free 3 9;stay 0 0 0 5 10;stay 1 1 0 4 20;"
            + "stay 2 0 1 9 5;stay 0 1 6 20 7;stay 5 2 30 95 99");
        Check.rule(x, "come 1=1");
        Check.rule(x, "hold late < 2;window late > 0");
        x.tick(0, 3);
        x.come(7, 0);
        x.come(8, 1);
        x.come(9, 2);
        x.waits(0, 1);
        x.waits(8, 0);
        x.worth(2, 31);
        x.worth(0, 5);
        x.wishes(3, 4, 10, 20, 5);
        x.wishes(4, 4, 12, 20, 6);
        x.went(5);
        x.went(3);
        x.went(8);
        x.before(3, 5);
        x.guest(4, 30);
        x.guest(20, 70);
        x.seed(4711);
        x.image(1);
        x.seed(4712);
        Check.tell(x, "house free 2 2;stay 4 0 1 2 3");
    }
}

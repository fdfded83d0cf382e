/** Promises 27 (guest), 28 (kept) and 29 (knocks). */
public final class GuestTest {
    public static void main(String[] args) {
        telling();
        keeping();
        guestsOfBefore();
        ofSeveralSets();
        keptWrong();
        knocking();
        letting();
        knocksWrong();
        Check.done();
    }

    private static void telling() {
        AfterTheLast x = new AfterTheLast();
        x.guest(1, 2);
        String was = Check.state(x);
        Check.is("go as come", x.guest(5, 5), -2);
        Check.is("go below come", x.guest(5, 4), -2);
        Check.is("come -2", x.guest(-2, 4), -2);
        Check.is("come 96", x.guest(96, 97), -2);
        Check.is("go 96", x.guest(5, 96), -2);
        Check.same("guest", x, was);
        for (int i = 2; i <= 12; i++) {
            Check.is("guest " + i, x.guest(0, 95), i);
        }
        Check.is("a 13th", x.guest(0, 95), -2);
        Check.is("twelve", x.count(11), 12);
        Check.is("none then", x.guest(-1, 500), 0);
        Check.is("none", x.count(11), 0);
        Check.is("one", x.guest(94, 95), 1);
    }

    private static void kept(String name, AfterTheLast x, int goes, int till, int many, int set) {
        Check.is(name + ": how many", x.kept(goes, till, 0), many);
        Check.is(name + ": the set", x.kept(goes, till, 1), set);
    }

    private static void keeping() {
        AfterTheLast x = new AfterTheLast();
        kept("nobody, till then", x, 5, 5, 0, 0);
        kept("nobody, till earlier", x, 5, 3, 0, 0);
        kept("nobody, till later", x, 5, 6, -2, -2);
        x.guest(4, 10);
        kept("one who comes ahead", x, 5, 10, 1, 1);
        kept("longer than that", x, 5, 11, -2, -2);
        kept("he comes when the other one is gone", x, 4, 10, -2, -2);
        kept("he comes when the other one could go", x, 4, 5, -2, -2);
        kept("not needed", x, 5, 5, 0, 0);
        x.guest(9, 20);
        x.guest(10, 30);
        x.guest(0, 6);
        kept("two, one after the other", x, 5, 20, 2, 3);
        kept("the third comes ahead of 20", x, 5, 30, 3, 7);
        kept("from 6", x, 6, 11, 2, 3);
        kept("who goes ahead keeps nobody", x, 7, 8, 1, 1);
        kept("he can go at 10", x, 10, 20, 1, 2);
        kept("the order they are told in is nothing", x, 1, 30, 4, 15);
        kept("0 to the end of all", x, 0, 95, -2, -2);
    }

    /** Guests of before are gone. */
    private static void guestsOfBefore() {
        AfterTheLast x = new AfterTheLast();
        x.guest(0, 10);
        x.guest(0, 50);
        x.guest(-1, 0);
        kept("none any more", x, 5, 6, -2, -2);
        x.guest(0, 10);
        kept("one again", x, 5, 10, 1, 1);
        kept("but not the other one", x, 5, 11, -2, -2);
    }

    private static void ofSeveralSets() {
        AfterTheLast x = new AfterTheLast();
        x.guest(3, 8);
        x.guest(3, 9);
        x.guest(7, 15);
        x.guest(8, 15);
        x.guest(0, 15);
        kept("one for all: the fewest", x, 5, 15, 1, 16);
        kept("till 9: the least set of one", x, 5, 9, 1, 2);
        kept("till 8", x, 5, 8, 1, 1);
        AfterTheLast y = new AfterTheLast();
        y.guest(8, 15);
        y.guest(3, 9);
        y.guest(3, 8);
        y.guest(7, 15);
        kept("0 and 1, or 1 and 3, or 2 and 3", y, 5, 15, 2, 3);
        AfterTheLast z = new AfterTheLast();
        z.guest(5, 10);
        z.guest(4, 10);
        kept("who comes when he could go does not find him", z, 5, 10, 1, 2);
    }

    private static void keptWrong() {
        AfterTheLast x = new AfterTheLast();
        x.guest(0, 95);
        kept("at the limits", x, 1, 95, 1, 1);
        Check.is("goes 0", x.kept(0, 95, 0), -2);
        Check.is("goes 95", x.kept(95, 95, 0), 0);
        Check.is("goes -1", x.kept(-1, 5, 0), -1);
        Check.is("goes 96", x.kept(96, 5, 0), -1);
        Check.is("till -1", x.kept(5, -1, 0), -1);
        Check.is("till 96", x.kept(5, 96, 0), -1);
        Check.is("what -1", x.kept(5, 6, -1), -1);
        Check.is("what 2", x.kept(5, 6, 2), -1);
    }

    private static void value(int c, int n, int w, int e, int t, int due) {
        Check.is("knocks " + c + " " + n + " " + w + " " + e + " " + t, new AfterTheLast().knocks(c, n, w, e, t, 0), due);
    }

    private static void knocking() {
        value(16, 1, 1, 3, 3, 0);
        value(16, 1, 1, 3, 2, 1000);
        value(16, 1, 1, 3, 1, 2000);
        value(16, 1, 1, 3, 0, 3000);
        value(16, 1, 99, 95, 0, 95 * 99000);
        value(0, 1, 99, 95, 0, 0);
        value(8, 2, 10, 3, 3, 0);
        value(8, 2, 10, 3, 2, 0);
        value(8, 2, 10, 3, 1, 5000);
        value(8, 2, 10, 3, 0, 7500);
        value(1, 1, 1, 1, 0, 62);
        value(1, 1, 1, 2, 0, 124);
        value(16, 95, 7, 95, 0, 7000);
        value(16, 95, 7, 95, 1, 0);
        value(16, 95, 7, 94, 0, 0);
        value(16, 5, 0, 95, 0, 0);
        value(5, 3, 9, 0, 0, 0);
    }

    private static void let(int c, int n, int w, int e, int t, int due) {
        Check.is("let " + c + " " + n + " " + w + " " + e + " " + t, new AfterTheLast().knocks(c, n, w, e, t, 1), due);
    }

    private static void letting() {
        let(16, 1, 1, 3, 2, 1);
        let(16, 1, 1, 3, 3, 0);
        let(16, 1, 0, 3, 1, 0);
        // with a knock at each quarter it is as good to let in the one at 3
        let(16, 5, 10, 8, 3, 1);
        let(16, 5, 10, 8, 2, 0);
        let(16, 5, 10, 8, 4, 0);
        // with half of the knocks it is better to take the first one
        let(8, 5, 10, 8, 2, 1);
        let(0, 5, 10, 8, 2, 1);
        let(8, 5, 10, 4, 0, 0);
        let(8, 5, 10, 5, 0, 1);
        let(8, 1, 10, 0, 0, 0);
        let(8, 1, 10, 95, 94, 1);
        let(8, 1, 10, 95, 95, 0);
        let(16, 95, 99, 95, 95, 0);
    }

    private static void knocksWrong() {
        AfterTheLast x = new AfterTheLast();
        Check.is("c -1", x.knocks(-1, 1, 1, 5, 1, 0), -1);
        Check.is("c 17", x.knocks(17, 1, 1, 5, 1, 0), -1);
        Check.is("n 0", x.knocks(1, 0, 1, 5, 1, 0), -1);
        Check.is("n 96", x.knocks(1, 96, 1, 5, 1, 0), -1);
        Check.is("w -1", x.knocks(1, 1, -1, 5, 1, 0), -1);
        Check.is("w 100", x.knocks(1, 1, 100, 5, 1, 0), -1);
        Check.is("e -1", x.knocks(1, 1, 1, -1, 0, 0), -1);
        Check.is("e 96", x.knocks(1, 1, 1, 96, 1, 0), -1);
        Check.is("t -1", x.knocks(1, 1, 1, 5, -1, 0), -1);
        Check.is("t above e", x.knocks(1, 1, 1, 5, 6, 0), -1);
        Check.is("what -1", x.knocks(1, 1, 1, 5, 1, -1), -1);
        Check.is("what 2", x.knocks(1, 1, 1, 5, 1, 2), -1);
    }
}

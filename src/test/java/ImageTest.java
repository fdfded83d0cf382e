/** Promises 33 (image) and 34 (back). */
public final class ImageTest {
    public static void main(String[] args) {
        neverMade();
        ofNothing();
        allIsAsItWas();
        whatStays();
        oneByOne();
        Check.done();
    }

    private static AfterTheLast some() {
        AfterTheLast x = Check.with("house free 3 2;house last 5 1;stay 0 0 0 4 1;stay 1 1 2 9 5");
        Check.rule(x, "come 1=1");
        x.tick(0, 3);
        x.come(7, 1);
        x.come(8, 1);
        x.waits(7, 3);
        x.worth(7, 44);
        x.wishes(1, 1, 0, 9, 4);
        x.went(3);
        x.went(2);
        x.before(2, 3);
        x.guest(3, 9);
        x.seed(1234);
        return x;
    }

    private static void change(AfterTheLast x) {
        x.tick(0, 5);
        x.go(8, false);
        x.go(7, true);
        x.come(11, 0);
        x.waits(7, -1);
        x.waits(2, 1);
        x.worth(7, 1);
        x.wishes(2, 2, 0, 9, 4);
        x.went(5);
        x.before(5, 3);
        x.guest(4, 9);
        x.seed(1);
    }

    private static void neverMade() {
        AfterTheLast x = some();
        x.image(1);
        String was = Check.state(x);
        Check.is("never made", x.back(0), -1);
        Check.is("no image 4", x.back(4), -1);
        Check.is("no image -1", x.back(-1), -1);
        Check.is("none is made", x.image(4), -1);
        Check.is("none is made below 0", x.image(-1), -1);
        Check.is("still not", x.back(4), -1);
        Check.same("back", x, was);
    }

    private static void ofNothing() {
        AfterTheLast x = new AfterTheLast();
        String was = Check.state(x);
        Check.is("an image of nothing", x.image(3), 0);
        Check.same("image", x, was);
        Check.street(x, "house last 1 1;stay 0 0 0 1 1");
        x.come(0, 0);
        x.seed(9);
        Check.is("back", x.back(3), 0);
        Check.same("back to nothing", x, was);
        Check.is("no houses", x.count(0), 0);
    }

    private static void allIsAsItWas() {
        AfterTheLast x = some();
        String was = Check.state(x);
        Check.is("now", x.image(0), 3);
        Check.same("image", x, was);
        change(x);
        Check.is("something changed", Check.state(x).equals(was), false);
        Check.is("now again", x.back(0), 3);
        Check.same("back", x, was);
        change(x);
        String changed = Check.state(x);
        Check.is("image 1", x.image(1), 8);
        x.back(0);
        Check.same("back again", x, was);
        change(x);
        Check.same("the same changes again", x, changed);
        x.back(0);
        Check.is("to the other one", x.back(1), 8);
        Check.same("the other one", x, changed);
        Check.is("who is in which order", x.house(1, 5), 1);
        // kept, rings and asks say the same, too
        x.back(0);
        Check.is("kept", x.kept(4, 9, 1), 1);
        Check.is("asks", x.asks(1), 44);
    }

    private static void whatStays() {
        AfterTheLast x = some();
        x.image(0);
        Check.rule(x, "hold 1=1");
        x.feed(1, 2, 3, 4, 5);
        x.back(0);
        Check.is("rules stay", x.count(2), 2);
        Check.is("the tape stays", x.count(13), 20);
        x.end(0);
        Check.is("another street", Check.street(x, "house first 1 1"), 1);
        x.image(1);
        Check.is("back to the street before", x.back(0), 3);
        Check.is("two houses", x.count(0), 2);
        Check.is("back to the other street", x.back(1), 0);
        Check.is("one house", x.count(0), 1);
        Check.is("its law", x.house(0, 0), 1);
    }

    private static void oneByOne() {
        AfterTheLast x = some();
        for (int k = 0; k < 4; k++) {
            x.seed(100 + k);
            Check.is("image " + k, x.image(k), 3);
        }
        for (int k = 3; k >= 0; k--) {
            Check.is("back " + k, x.back(k), 3);
            Check.is("its x", x.count(12), 100 + k);
        }
        x.seed(500);
        x.image(2);
        x.seed(501);
        x.back(1);
        Check.is("x of 1", x.count(12), 101);
        x.back(2);
        Check.is("x of 2, made anew", x.count(12), 500);
    }
}

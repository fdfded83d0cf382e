/** The boundary cases of promises 33 (image) and 34 (back). */
public final class ImageEdgeTest {
    public static void main(String[] args) {
        images();
        ofNothing();
        neverMade();
        asItWas();
        theTapeAndTheRulesStay();
        otherImagesStay();
        againAndAgain();
        afterAStreet();
        Check.done();
    }

    /** Changes all that an image holds. */
    private static void change(AfterTheLast x) {
        x.tick(1, 40);
        x.go(7, true);
        x.go(9, false);
        x.come(11, 2);
        x.waits(0, -1);
        x.waits(3, 4);
        x.worth(2, 0);
        x.worth(11, 99);
        x.wishes(-1, 0, 0, 0, 0);
        x.wishes(5, 5, 1, 9, 4);
        x.went(-1);
        x.went(1);
        x.before(-1, 0);
        x.before(1, 2);
        x.before(2, 1);
        x.guest(-1, 0);
        x.guest(1, 95);
        x.seed(1);
    }

    private static void images() {
        Doc.says("An IMAGE is made (also where nothing was told yet): NOW; NONE for another k.");
        for (int k = -2; k <= 5; k++) {
            AfterTheLast x = new AfterTheLast();
            Twins.some(x);
            boolean can = k >= 0 && k <= 3;
            Check.is("image " + k, x.image(k), can ? 3 : -1);
            Check.is("back " + k, x.back(k), can ? 3 : -1);
        }
        for (int k : new int[] {-1, 4, Integer.MAX_VALUE, Integer.MIN_VALUE}) {
            Twins.leave("image " + k, Twins::some, x -> x.image(k), -1);
        }
        // the image that is there already is as all else is, but for x
        Twins.leave("image 1 again", x -> { Twins.some(x); x.seed(4711); }, x -> x.image(1), 3);
        AfterTheLast now = Check.with("house free 1 0");
        Check.rule(now, "come 1=1");
        now.tick(0, 96);
        Check.is("at 96", now.image(3), 96);
        Check.street(now, "house free 1 0");
        Check.is("back at 96", now.back(3), 96);
        Check.is("now", now.count(3), 96);
        Check.is("no quarter is left", now.tick(0, 1), -1);
    }

    private static void ofNothing() {
        for (int k = 0; k < 4; k++) {
            int made = k;
            Twins.same("back to nothing", x -> { x.image(made); }, x -> {
                x.image(made);
                Check.street(x, "house last 4 1;house first 3 0;stay 0 0 0 5 10");
                x.come(3, 1);
                x.waits(4, 5);
                x.worth(2, 3);
                x.wishes(1, 1, 1, 5, 2);
                x.went(3);
                x.before(3, 4);
                x.guest(1, 2);
                x.seed(3);
                Check.is("NOW", x.back(made), 0);
            });
        }
    }

    private static void neverMade() {
        Doc.says("All is as in an IMAGE: NOW; NONE, and nothing happens, if it was never made, or without it.");
        for (int k : new int[] {0, 2, 3, 4, -1, Integer.MAX_VALUE, Integer.MIN_VALUE}) {
            Twins.leave("back " + k, Twins::some, x -> x.back(k), -1);
        }
        for (int k = -1; k <= 4; k++) {
            Check.is("none was made", new AfterTheLast().back(k), -1);
        }
    }

    private static void asItWas() {
        Doc.says("IMAGES 0 to 3: all but the TAPE and the RULES, as it is; gone back to, it is as it was (these stay).");
        for (int k = 0; k < 4; k++) {
            int made = k;
            Twins.same("back to image " + k, x -> { Twins.some(x); x.image(made); }, x -> {
                Twins.some(x);
                x.image(made);
                change(x);
                Check.is("something has changed", x.count(3), 43);
                Check.is("NOW", x.back(made), 3);
            });
        }
    }

    private static void theTapeAndTheRulesStay() {
        AfterTheLast x = new AfterTheLast();
        x.image(0);
        Check.rule(x, "come now=2");
        Check.tell(x, "house free 1 9;stay 0 0 0 9 0");
        Check.is("back", x.back(0), 0);
        Check.is("the rule stays", x.count(2), 1);
        Check.is("the tape stays", x.count(13), 29);
        Check.is("and what it says", x.street(), 1);
        Check.is("windows", x.house(0, 2), 9);
        Check.is("the rule says what it said", x.ahead(0, 2, 2), 0);
        Check.is("the rule says what it said", x.ahead(0, 3, 2), 1);
        x.image(1);
        for (int i = 1; i < 6; i++) {
            Check.rule(x, "come 1=1");
        }
        x.back(1);
        Check.is("six rules", x.count(2), 6);
        Check.is("no seventh", Check.rule(x, "come 1=1"), -1);
        x.back(0);
        Check.is("back to no houses: the rules stay", x.tick(5, 4), 4);
    }

    private static void otherImagesStay() {
        AfterTheLast x = new AfterTheLast();
        for (int k = 0; k < 4; k++) {
            x.seed(k + 10);
            x.image(k);
        }
        for (int i = 0; i < 24; i++) {
            int k = i * 7 % 4;
            Check.is("back", x.back(k), 0);
            Check.is("its x", x.count(12), k + 10);
        }
        x.back(2);
        x.seed(99);
        x.image(2);
        for (int k = 0; k < 4; k++) {
            x.back(k);
            Check.is("one made anew, the others as they were", x.count(12), k == 2 ? 99 : k + 10);
        }
    }

    private static void againAndAgain() {
        // what happens behind a going back does not reach the image
        Twins.same("twice", x -> { Twins.some(x); x.image(0); }, x -> {
            Twins.some(x);
            x.image(0);
            for (int i = 0; i < 3; i++) {
                change(x);
                x.back(0);
            }
        });
        AfterTheLast x = new AfterTheLast();
        Twins.some(x);
        x.image(0);
        x.tick(1, 10);
        int late = x.count(4);
        x.back(0);
        x.tick(1, 10);
        Check.is("the same quarters again", x.count(4), late);
    }

    private static void afterAStreet() {
        Twins.same("back to the street before", x -> { Twins.some(x); x.image(3); }, x -> {
            Twins.some(x);
            x.image(3);
            x.end(0);
            Check.street(x, "house first 12 9;house first 12 9;house first 12 9;house first 12 9;house first 12 9;stay 11 4 0 95 99");
            x.tick(0, 50);
            x.come(1, 2);
            x.back(3);
            Check.tell(x, "house free 2 2;stay 4 0 1 2 3");
        });
    }
}

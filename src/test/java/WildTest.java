import java.util.Random;

/** No call ever throws, for any numbers in any state; always the same runs, of 512 calls each. */
public final class WildTest {
    private static final String[] TEXTS = {"house last 3 1;house first 2 0;house free 2 0;stay 0 0 0 4 10;stay 1 0 1 6 20;stay 2 0 2 3 5",
        "house free 12 9;stay 11 0 0 95 99;stay 0 0 94 95 0", "come inside < 9", "hold late < 3;window 1=1",
        "come not [now*99999*99999*99999*99999/room < 0] or worth/late = 0", "house last 1 0;", "come 1", ""};

    private final Random chance;
    private final AfterTheLast x = new AfterTheLast();

    private WildTest(long seed) {
        chance = new Random(seed);
    }

    public static void main(String[] args) {
        Doc.says("Nothing is promised beyond the answers and state changes described above");
        for (int run = 0; run < 400; run++) {
            Check.is("run " + run, new WildTest(run).calls(), 512);
        }
        Check.done();
    }

    private int calls() {
        int call = 0;
        try {
            for (; call < 512; call++) {
                if (chance.nextInt(12) == 0 && call < 480) {
                    call += tell(TEXTS[chance.nextInt(TEXTS.length)]);
                } else {
                    call(chance.nextInt(33));
                }
            }
        } catch (RuntimeException e) {
            System.out.println("call " + call + ": " + e);
            return -1;
        }
        return 512;
    }

    /** Feeds a text; answers how many calls that were, less one. */
    private int tell(String text) {
        x.end(0);
        Check.tell(x, text);
        return (text.length() + 19) / 20 + 1;
    }

    private int n() {
        switch (chance.nextInt(8)) {
            case 0: return chance.nextInt();
            case 1: return chance.nextBoolean() ? Integer.MIN_VALUE : Integer.MAX_VALUE;
            case 2: return chance.nextInt(100);
            case 3: return chance.nextInt(15) - 2;
            case 4: return 1 << chance.nextInt(32);
            default: return chance.nextInt(4);
        }
    }

    private void call(int method) {
        switch (method) {
            case 0: x.feed(n(), n(), n(), n(), n()); break;
            case 1: x.end(n()); break;
            case 2: x.street(); break;
            case 3: x.rule(); break;
            case 4: x.house(n(), n()); break;
            case 5: x.stay(n(), n()); break;
            case 6: x.person(n(), n()); break;
            case 7: x.come(n(), n()); break;
            case 8: x.go(n(), chance.nextBoolean()); break;
            case 9: x.tick(n(), n()); break;
            case 10: x.ahead(n(), n(), n()); break;
            case 11: x.bestRule(); break;
            case 12: x.cross(n(), n(), n()); break;
            case 13: x.fits(n(), n(), n()); break;
            case 14: x.most(n(), n()); break;
            case 15: x.houses(n(), n(), n()); break;
            case 16: x.wishes(n(), n(), n(), n(), n()); break;
            case 17: x.plan(n()); break;
            case 18: x.waits(n(), n()); break;
            case 19: x.rings(n()); break;
            case 20: x.worth(n(), n()); break;
            default: callOfTheRest(method);
        }
    }

    private void callOfTheRest(int method) {
        switch (method) {
            case 21: x.asks(n()); break;
            case 22: x.went(n()); break;
            case 23: x.before(n(), n()); break;
            case 24: x.orders(n()); break;
            case 25: x.guest(n(), n()); break;
            case 26: x.kept(n(), n(), n()); break;
            case 27: x.knocks(n(), n(), n(), n(), n(), n()); break;
            case 28: x.seed(n()); break;
            case 29: x.evenings(n(), n(), n()); break;
            case 30: x.count(n()); break;
            case 31: x.image(n()); break;
            default: x.back(n());
        }
    }
}

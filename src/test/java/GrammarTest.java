import java.util.Random;

/**
 * What binds how in a TEST: facts and sums are made up as trees, whose worth is reckoned as they are
 * made, and then told as texts; the program must come to the same. Always the same runs.
 */
public final class GrammarTest {
    private static final String[] SIGNS = {"<", "<=", "=", ">=", ">"};

    private final Random chance;
    private final StringBuilder text = new StringBuilder();
    private int parts = 0;

    private GrammarTest(long seed) {
        chance = new Random(seed);
    }

    public static void main(String[] args) {
        eachOfThree();
        for (int run = 0; run < 1500; run++) {
            partsAndFacts(run);
            termsAndValues(run);
        }
        Check.done();
    }

    /** Whether somebody outside, of whom all words are 0 but room and long, comes by a test. */
    private static boolean holds(String test) {
        AfterTheLast x = Check.with("house last 7 0;stay 0 0 0 9 0");
        int rule = Check.rule(x, "come " + test);
        Check.is("a rule of " + test, rule, 0);
        return x.ahead(0, 1, 2) == 1;
    }

    private static String fact(boolean holds) {
        return holds ? "1=1" : "1=2";
    }

    private static void eachOfThree() {
        Doc.says("TEST: PART { or PART }. PART: FACT { and FACT }.");
        for (int bits = 0; bits < 8; bits++) {
            boolean a = (bits & 1) == 1;
            boolean b = (bits & 2) == 2;
            boolean c = (bits & 4) == 4;
            String x = fact(a);
            String y = fact(b);
            String z = fact(c);
            Check.is("or, or", holds(x + " or " + y + " or " + z), a || b || c);
            Check.is("and, and", holds(x + " and " + y + " and " + z), a && b && c);
            Check.is("and, or", holds(x + " and " + y + " or " + z), a && b || c);
            Check.is("or, and", holds(x + " or " + y + " and " + z), a || b && c);
            Check.is("[or], and", holds("[" + x + " or " + y + "] and " + z), (a || b) && c);
            Check.is("and, [or]", holds(x + " and [" + y + " or " + z + "]"), a && (b || c));
            Check.is("not and", holds("not " + x + " and " + y), !a && b);
            Check.is("not or", holds("not " + x + " or " + y), !a || b);
            Check.is("not [and] or", holds("not [" + x + " and " + y + "] or " + z), !(a && b) || c);
            Check.is("and not or", holds(x + " and not " + y + " or " + z), a && !b || c);
            Check.is("or not and", holds(x + " or not " + y + " and not " + z), a || !b && !c);
            Check.is("not not", holds("not not " + x + " and not not not " + y), a && !b);
            Check.is("not [or] and", holds("not [" + x + " or not " + y + "] and " + z), !(a || !b) && c);
        }
    }

    private void blanks() {
        text.append(chance.nextInt(9) == 0 ? "  " : chance.nextInt(3) == 0 ? " " : "");
    }

    /** A blank at least, so that two words stay two. */
    private void word(String word) {
        text.append(' ').append(word).append(' ');
        blanks();
    }

    // ---- facts ----

    private boolean test(int deep) {
        boolean holds = part(deep);
        for (int more = chance.nextInt(3); more > 0 && parts < 40; more--) {
            word("or");
            holds |= part(deep);
        }
        return holds;
    }

    private boolean part(int deep) {
        boolean holds = fact(deep);
        for (int more = chance.nextInt(3); more > 0 && parts < 40; more--) {
            word("and");
            holds &= fact(deep);
        }
        return holds;
    }

    private boolean fact(int deep) {
        int kind = deep < 10 && parts < 35 && text.length() < 250 ? chance.nextInt(5) : 4;
        if (kind == 0) {
            word("not");
            return !fact(deep + 1);
        }
        if (kind == 1) {
            text.append('[');
            boolean holds = test(deep + 1);
            blanks();
            text.append(']');
            return holds;
        }
        int left = chance.nextInt(4);
        int right = chance.nextInt(4);
        int sign = chance.nextInt(5);
        text.append(left);
        blanks();
        text.append(SIGNS[sign]);
        blanks();
        text.append(right);
        parts += 3;
        return signHolds(sign, left, right);
    }

    private static boolean signHolds(int sign, long left, long right) {
        return sign == 0 ? left < right : sign == 1 ? left <= right : sign == 2 ? left == right : sign == 3 ? left >= right : left > right;
    }

    private static void partsAndFacts(int run) {
        GrammarTest one = new GrammarTest(run);
        boolean due = one.test(0);
        if (one.text.length() <= 390 && one.parts <= 60) {
            Check.is("run " + run + ": " + one.text, holds(one.text.toString()), due);
        }
    }

    // ---- sums ----

    private long value() {
        blanks();
        parts++;
        int kind = chance.nextInt(6);
        if (kind == 0) {
            text.append("room");
            return 7;
        }
        if (kind == 1) {
            text.append("long");
            return 9;
        }
        int number = chance.nextInt(kind == 2 ? 100000 : 12);
        text.append(chance.nextInt(4) == 0 ? String.format("%05d", number) : "" + number);
        return number;
    }

    private long term(int most) {
        long worth = value();
        for (int more = chance.nextInt(most); more > 0; more--) {
            blanks();
            boolean times = chance.nextBoolean();
            text.append(times ? '*' : '/');
            long by = value();
            worth = times ? worth * by : by == 0 ? 0 : worth / by;
        }
        return worth;
    }

    private long sum(int most) {
        long worth = term(most);
        for (int more = chance.nextInt(4); more > 0; more--) {
            blanks();
            boolean plus = chance.nextBoolean();
            text.append(plus ? '+' : '-');
            long by = term(most);
            worth = plus ? worth + by : worth - by;
        }
        return worth;
    }

    private static void termsAndValues(int run) {
        if (run == 0) {
            Doc.says("SUM: TERM { (+ or -) TERM }. TERM: VALUE { (* or /) VALUE }.");
        }
        GrammarTest one = new GrammarTest(run);
        long left = one.sum(run % 3 == 0 ? 7 : 3);
        int sign = one.chance.nextInt(5);
        one.text.append(SIGNS[sign]);
        long right;
        if (one.chance.nextBoolean() && left > -99999 && left < 99999) {
            // as near as can be, on either side
            right = left + one.chance.nextInt(3) - 1;
            one.text.append(right < 0 ? "0-" + -right : "" + right);
        } else {
            right = one.sum(2);
        }
        if (one.parts < 60 && one.text.length() <= 395) {
            Check.is("run " + run + ": " + one.text, holds(one.text.toString()), signHolds(sign, left, right));
        }
    }
}

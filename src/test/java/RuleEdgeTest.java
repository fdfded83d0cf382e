/** The boundary cases of promise 5 (rule) and of the language of RULES. In a text ^ marks where its fault is. */
public final class RuleEdgeTest {
    /** 2 to the 63rd, which has gone round to the least number of 64 bits. */
    private static final String LEAST = "32768*32768*32768*32768*8";

    public static void main(String[] args) {
        ofAtMost400Bytes();
        atMost12Clauses();
        whatCanStandWhere();
        theEnd();
        signs();
        digits();
        eachWord();
        wordsAtTheirLimits();
        wordsAsTheyAreThen();
        towardsZero();
        roundIn64Bits();
        tenDeep();
        tooDeep();
        sixtyParts();
        onePartTooMany();
        theLeastOfOnePlace();
        itsNumber();
        sixRules();
        eachRuleBeginsAnew();
        Check.done();
    }

    private static String blanks(int many) {
        return " ".repeat(many);
    }

    /** Whether somebody outside comes by a test at the next quarter. */
    private static boolean comes(AfterTheLast x, String test) {
        int rule = Check.rule(x, "come " + test);
        Check.is("a rule of " + test, rule >= 0, true);
        return x.ahead(rule, 1, 2) > x.count(5);
    }

    private static void holds(String test, boolean due) {
        Check.is(test, comes(Check.with("house last 1 0;stay 0 0 0 9 0"), test), due);
    }

    private static void ofAtMost400Bytes() {
        Doc.says("RULES 0 to 5: texts likewise");
        AfterTheLast x = Check.with("house free 1 0;stay 3 0 0 9 0");
        Check.rule(x, blanks(388) + "come now < 1");
        Check.rule(x, blanks(388) + "come now < 0");
        Check.is("its last byte is 1", x.ahead(0, 1, 0), 1);
        Check.is("its last byte is 0", x.ahead(1, 1, 0), 0);
        Check.badRule(blanks(388) + "come now < ^x", 0);
        Check.badRule(blanks(387) + "come now < 1;^", 0);
        Check.badRule(blanks(389) + "come now < ^", 0);
        Check.badRule(blanks(396) + "come^", 0);
        Check.badRule(blanks(397) + "^com", 0);
        Check.badRule(blanks(400) + "^", 0);
        Check.badRule("^", 0);
        Check.badRule("come ^" + "1".repeat(395), 1);
    }

    private static void atMost12Clauses() {
        Doc.says("12 CLAUSES at most: come TEST | hold TEST | window TEST");
        String[] kinds = {"come", "hold", "window"};
        for (String kind : kinds) {
            String one = kind + " 1=1";
            Check.goodRule(one);
            Check.goodRule((one + ";").repeat(11) + one);
            for (String another : kinds) {
                Check.badRule((one + ";").repeat(12) + "^" + another + " 1=1", 4);
                Check.badRule((one + " ; ").repeat(12) + "^" + another, 4);
            }
            Check.badRule((one + ";").repeat(12) + "^", 0);
            Check.badRule((one + ";").repeat(12) + "^x", 0);
            Check.badRule((one + ";").repeat(12) + "^" + kind + "s 1=1", 0);
            Check.badRule((one + ";").repeat(12) + "^;", 0);
        }
        // the twelfth one counts
        AfterTheLast x = Check.with("house free 1 0;stay 3 0 0 9 0");
        Check.rule(x, "come 1=2;".repeat(11) + "come 1=1");
        Check.is("he comes by the twelfth", x.ahead(0, 1, 0), 1);
    }

    private static void stands(String ahead, String canStand) {
        String[] tokens = {"come", "hold", "window", "not", "[", "]", "and", "or", "now", "windows", "7", ";", "<", "<=", "=", ">=",
            ">", "+", "-", "*", "/", "(", ")", "x", "nots", "NOW", ".", "\u0000", "\u00ff"};
        for (String token : tokens) {
            boolean can = (" " + canStand + " ").contains(" " + token + " ");
            if (can) {
                // if it can stand there, the fault is the byte behind it
                Check.badRule(ahead + token + " ^?", 0);
            } else {
                Check.badRule(ahead + "^" + token + " ?", 0);
            }
        }
    }

    private static void whatCanStandWhere() {
        Doc.says("0 a byte or WORD that can't stand there");
        String fact = "not [ now windows 7";
        String value = "now windows 7";
        String joins = "+ - * /";
        stands("", "come hold window");
        stands("  ", "come hold window");
        stands("come 1=1;", "come hold window");
        stands("come ", fact);
        stands("hold ", fact);
        stands("window ", fact);
        stands("come not ", fact);
        stands("come [ ", fact);
        stands("come 1=1 and ", fact);
        stands("come 1=1 or ", fact);
        stands("come now ", joins + " < <= = >= >");
        stands("come 7 ", joins + " < <= = >= >");
        stands("come 7 + now ", joins + " < <= = >= >");
        stands("come now + ", value);
        stands("come now / ", value);
        stands("come now < ", value);
        stands("come now >= ", value);
        stands("come now < 1 ", joins + " and or ;");
        stands("come now < 1 + now ", joins + " and or ;");
        stands("come now < 1 * ", value);
        stands("come [ now < 1 ", joins + " and or ]");
        stands("come [ now < 1 and now = 2 ", joins + " and or ]");
        stands("come [1=1] ", "and or ;");
        stands("come not [1=1] ", "and or ;");
        stands("come [[1=1] ", "and or ]");
        stands("come not 1=1 ", joins + " and or ;");
    }

    private static void theEnd() {
        Doc.says("or the end (behind the last byte)");
        String[] cut = {"^", "   ^", "^c", "^com", "come^", "come  ^", "come ^n", "come now^", "come now ^", "come 7^", "come now +^",
            "come now + 1^", "come now <^", "come now <=^", "come now < ^", "come now < 1 *^", "come now < 1 and^",
            "come now < 1 or ^", "come not^", "come [^", "come [now^", "come [now < 1^", "come [now < 1 ^", "come [[now < 1]^",
            "come now < 1;^", "come now < 1; ^", "come now < 1;^hol", "come now < 1;hold^"};
        for (String text : cut) {
            Check.badRule(text, 0);
        }
        Check.goodRule("come now < 1");
        Check.goodRule("come now < 1   ");
        Check.goodRule("come [now < 1]");
    }

    private static void signs() {
        Doc.says("FACT: not FACT | [ TEST ] (these brackets are signs) | SUM SIGN SUM, SIGN one of < <= = >= >.");
        String[] sign = {"<", "<=", "=", ">=", ">"};
        int[] less = {1, 1, 0, 0, 0};
        int[] same = {0, 1, 1, 1, 0};
        int[] more = {0, 0, 0, 1, 1};
        for (int i = 0; i < 5; i++) {
            holds("1" + sign[i] + "2", less[i] == 1);
            holds("2 " + sign[i] + " 2", same[i] == 1);
            holds("3" + sign[i] + " 2", more[i] == 1);
            holds("not 1" + sign[i] + "2", less[i] == 0);
            holds("not 2" + sign[i] + "2", same[i] == 0);
            holds("not 3" + sign[i] + "2", more[i] == 0);
            holds("not not 1" + sign[i] + "2", less[i] == 1);
        }
        holds("5<2+3", false);
        holds("7=3+3", false);
        holds("7=9-3", false);
        holds("6=3*2", true);
        holds("2*3+1=1+3*2", true);
        holds("9>=9+1-0", false);
        holds("not 5<2+3", true);
        Check.badRule("come 1 < ^= 2", 0);
        Check.badRule("come 1 > ^= 2", 0);
        Check.badRule("come 1 =^< 2", 0);
        Check.badRule("come 1 =^> 2", 0);
        Check.badRule("come 1 =^= 2", 0);
        Check.badRule("come 1 <=^= 2", 0);
        Check.badRule("come 1 <^> 2", 0);
        Check.badRule("come 1 <^< 2", 0);
        Check.badRule("come 1 ^! 2", 0);
        Check.badRule("come 1 < 2 ^< 3", 0);
    }

    private static void digits() {
        Doc.says("VALUE: NUMBER (1 to 5 digits, as far as digits go on) | WORD.");
        holds("99999 = 99999", true);
        holds("00000 = 0", true);
        holds("00009 = 9", true);
        holds("99998+1 = 99999", true);
        holds("1 = 1or 2 = 3", true);
        Check.badRule("come ^100000 = 1", 1);
        Check.badRule("come ^000000 = 1", 1);
        Check.badRule("come 1 = ^000001", 1);
        Check.badRule("come 1 + ^123456 = 1", 1);
        Check.badRule("come 1 = 2 * ^123456", 1);
        Check.badRule("come ^4294967297 = 1", 1);
        Check.badRule("come ^123456x = 1", 1);
        Check.badRule("come 1 ^2 = 1", 0);
        Check.badRule("come 12345 ^6 = 1", 0);
        Check.badRule("come ^-1 = 1", 0);
        Check.badRule("come 1^.5 = 1", 0);
    }

    private static void eachWord() {
        Doc.says("WORDS (small letters, as far as these go on) of a person and a STAY of his");
        String[] words = {"now", "person", "house", "inside", "after", "room", "windows", "worth", "late", "long"};
        for (String word : words) {
            Check.goodRule("come " + word + "=1");
            Check.goodRule("hold 1=" + word);
            Check.goodRule("window 1+" + word + "*" + word + "=1");
            Check.badRule("come ^" + word + "a=1", 0);
            Check.badRule("come ^" + word + "z=1", 0);
            Check.badRule("come ^" + word + word + "=1", 0);
            Check.badRule("come ^" + word.substring(1) + "=1", 0);
            Check.badRule("come ^" + word.substring(0, word.length() - 1) + "=1", 0);
            Check.badRule("come ^" + word.toUpperCase() + "=1", 0);
            Check.badRule("come ^" + Character.toUpperCase(word.charAt(0)) + word.substring(1) + "=1", 0);
            Check.badRule("come " + word + "^A=1", 0);
            Check.badRule("come " + word + "^7=1", 0);
        }
        Check.goodRule("come1=1;hold[1=1];window7<8or not1=1and not[now>1]");
        String[] none = {"come", "hold", "window", "stay", "till", "from", "last", "first", "free", "and", "or", "quarter"};
        for (String word : none) {
            Check.badRule("come ^" + word + "=1", 0);
            Check.badRule("come 1=^" + word, 0);
        }
    }

    private static AfterTheLast at(String street, int now) {
        AfterTheLast x = Check.with(street);
        Check.rule(x, "come 1=2");
        if (now > 0) {
            Check.is("now", x.tick(0, now), now);
        }
        return x;
    }

    private static void wordsAtTheirLimits() {
        Doc.says("now, person, house, inside (PEOPLE in that HOUSE), after (how many of them came in after him; 0 if he is not there), room (places that are left there), windows (left there), worth, late (NOW less till, 0 at least), long (till less NOW, 0 at least)");
        String one = "house free 1 0;stay 0 0 0 95 0";
        String allLeast = "now=0 and person=0 and house=0 and inside=0 and after=0 and room=1 and windows=0 and worth=0 and late=0 and long=95";
        Check.is("at the least", comes(at(one, 0), allLeast), true);
        String last = "house free 1 0;".repeat(5) + "house last 12 9;stay 11 5 94 95 99";
        String allMost = "now=94 and person=11 and house=5 and inside=0 and after=0 and room=12 and windows=9 and worth=99 and late=0 and long=1";
        Check.is("at the most", comes(at(last, 94), allMost), true);
        AfterTheLast full = at("house last 12 9;stay 11 0 0 95 0", 0);
        for (int p = 0; p < 11; p++) {
            full.come(p, 0);
        }
        Check.is("one place left", comes(full, "inside=11 and room=1 and after=0 and windows=9"), true);
        full.go(3, true);
        Check.is("two places left, a window less", comes(full, "inside=10 and room=2 and windows=8"), true);
    }

    /** Twelve inside whose time is over; somebody goes by a window if the test holds of him. */
    private static int outByWindow(String test, int quarters) {
        StringBuilder b = new StringBuilder("house last 12 9");
        for (int p = 0; p < 12; p++) {
            b.append(";stay ").append(p).append(" 0 0 1 0");
        }
        AfterTheLast x = Check.with(b.toString());
        Check.rule(x, "hold 1=1;window " + test);
        x.tick(0, quarters);
        return 9 - x.house(0, 2);
    }

    private static void wordsAsTheyAreThen() {
        Doc.says("(TESTS with WORDS as they are then.)");
        Check.is("nobody's time is over", outByWindow("1=1", 1), 0);
        Check.is("all, as far as there are windows", outByWindow("1=1", 2), 9);
        Check.is("the first of twelve", outByWindow("after=11", 2), 1);
        Check.is("full", outByWindow("inside=12 and room=0", 2), 1);
        Check.is("then the others, one by one", outByWindow("inside+person=12 and room=person", 2), 9);
        Check.is("the last", outByWindow("after=0", 2), 1);
        Check.is("windows left", outByWindow("windows=9 or windows=8", 2), 2);
        Check.is("late is 0 at till", outByWindow("late=0 and long=0 and now=1", 2), 9);
        Check.is("late is above 0 behind it", outByWindow("late>0", 2), 0);
        Check.is("late is NOW less till", outByWindow("late=1 and long=0 and now=2", 3), 9);
    }

    private static void towardsZero() {
        Doc.says("/ is towards 0, 0 by 0;");
        holds("7/2=3", true);
        holds("1/2=0", true);
        holds("99999/99999=1", true);
        holds("0/5=0", true);
        holds("5/0=0", true);
        holds("0/0=0", true);
        holds("5/0*7=0", true);
        holds("now/now=0", true);
        holds("3+5/0=3", true);
        // -2^63 by 3 is -3074457345618258602 and something: three times that is 2 above -2^63
        holds(LEAST + "/3*3=" + LEAST + "+2", true);
        holds(LEAST + "/3*3<" + LEAST, false);
        holds(LEAST + "/0=0", true);
        holds(LEAST + "/1=" + LEAST, true);
    }

    private static void roundIn64Bits() {
        Doc.says("all goes round in 64 bits.");
        holds(LEAST + "<0", true);
        holds(LEAST + "-1>0", true);
        holds(LEAST + "-1+1=" + LEAST, true);
        holds("0-" + LEAST + "=" + LEAST, true);
        holds(LEAST + "+" + LEAST + "=0", true);
        holds("32768*32768*32768*32768*16=0", true);
        holds("32768*32768*32768*32768*7>0", true);
        holds("32768*32768*32768*32768*15<0", true);
        holds(LEAST + "<" + LEAST + "-1", true);
        holds("32768*32768*2=0", false);
        holds("65536*65536=0", false);
    }

    private static void tenDeep() {
        Doc.says("[ and not lie within one another 10 deep at most");
        // each row of ten brackets and nots
        for (int row = 0; row < 1024; row++) {
            StringBuilder open = new StringBuilder("come ");
            StringBuilder close = new StringBuilder("1=1");
            for (int i = 0; i < 10; i++) {
                boolean bracket = (row >> i & 1) == 1;
                open.append(bracket ? "[" : "not ");
                close.append(bracket ? "]" : "");
            }
            Check.goodRule(open.toString() + close);
            if (row % 16 == 5) {
                Check.badRule(open + "^[1=1]" + close.substring(3), 2);
                Check.badRule(open + "^not " + close, 2);
                // what has ended is not about what comes then
                Check.goodRule(open.toString() + close + " and " + open.substring(5) + close);
            }
        }
        String brackets = "[".repeat(10) + "1=1" + "]".repeat(10);
        String nots = "not ".repeat(10) + "1=1";
        Check.goodRule("come " + brackets + "or " + brackets + "and " + nots + " or " + nots + ";hold " + brackets + ";hold " + nots);
        Check.goodRule("come " + "[".repeat(9) + "not 1=1 and not 1=1 or [1=1]and not 1=1" + "]".repeat(9));
        holds("not ".repeat(10) + "1=1", true);
        holds("not ".repeat(9) + "1=1", false);
        holds("not[".repeat(5) + "1=1" + "]".repeat(5), false);
    }

    private static void tooDeep() {
        Doc.says("2 too deep (at the sign that opens, or the word not)");
        Check.badRule("come " + "[".repeat(10) + "^[", 2);
        Check.badRule("come " + "[ ".repeat(10) + "^[1=1", 2);
        Check.badRule("come " + "[".repeat(10) + "^not", 2);
        Check.badRule("come " + "not ".repeat(10) + "^not 1=1", 2);
        Check.badRule("come " + "not ".repeat(10) + "^[1=1]", 2);
        Check.badRule("come " + "[".repeat(9) + "1=1 and not 1=1 and [^[1=1]", 2);
        Check.badRule("come " + "[".repeat(9) + "[1=1]and not ^not 1=1", 2);
        Check.badRule("come " + "[".repeat(10) + "1=1 or ^not 1=1", 2);
        Check.badRule("come 1=1;hold " + "[".repeat(10) + "^[1=1", 2);
        // where it can't stand at all, that is the fault
        Check.badRule("come " + "[".repeat(10) + "1=1^[", 0);
        Check.badRule("come " + "[".repeat(10) + "1=1 ^not", 0);
        Check.badRule("come " + "[".repeat(10) + "1=^[", 0);
        Check.badRule("come " + "[".repeat(10) + "^nots", 0);
        Check.badRule("come " + "[".repeat(10) + "^]", 0);
    }

    private static void sixtyParts() {
        Doc.says("at most 60 VALUES and FACTS made of a SIGN, together.");
        Check.goodRule("come " + "1=1 or ".repeat(19) + "1=1");
        Check.goodRule("come " + "not 1=1 or ".repeat(19) + "not 1=1");
        Check.goodRule("come " + "[1=1]or ".repeat(19) + "[1=1]");
        Check.goodRule("come " + "1+".repeat(57) + "1=1");
        Check.goodRule("come 1=" + "1*".repeat(57) + "1");
        Check.goodRule("come " + "now-".repeat(28) + "1=" + "1*".repeat(29) + "1");
        Check.goodRule("come 1=1;hold " + "1=1 and ".repeat(17) + "1=1;window 1=1");
        // brackets and nots are none of them
        holds("not not [1=1]" + " or 1=2".repeat(19), true);
    }

    private static void onePartTooMany() {
        Doc.says("3 one VALUE or FACT too many (at its first byte; of a FACT at its SIGN)");
        String sixty = "come " + "1=1 or ".repeat(20);
        Check.badRule(sixty + "^1=1", 3);
        Check.badRule(sixty + "^now=1", 3);
        Check.badRule(sixty + "^99999=1", 3);
        Check.badRule(sixty + "[^1=1]", 3);
        Check.badRule(sixty + "not ^late=1", 3);
        Check.badRule("come " + "1=1 or ".repeat(19) + "1=1;hold ^1=1", 3);
        // 59 of them: a value is the 60th, its sign one too many
        Check.badRule("come " + "1=1 or ".repeat(18) + "1+1+1=1 or 1^=1", 3);
        Check.badRule("come " + "1=1 or ".repeat(18) + "1+1+1=1 or 1 ^<= 1", 3);
        Check.badRule("come " + "1=1 or ".repeat(18) + "1+1+1=1 or 1 ^>1", 3);
        // 58 of them: the sign is the 60th, the value behind it one too many
        Check.badRule("come " + "1=1 or ".repeat(18) + "1+1=1 or 1=^1", 3);
        Check.badRule("come " + "1=1 or ".repeat(18) + "1+1=1 or 1=   ^now", 3);
        Check.badRule("come " + "1+".repeat(60) + "^1=1", 3);
        Check.badRule("come " + "1+".repeat(59) + "1^=1", 3);
        Check.badRule("come " + "1+".repeat(58) + "1=^1", 3);
        Check.badRule("come 1=" + "1+".repeat(58) + "^1", 3);
    }

    private static void theLeastOfOnePlace() {
        Doc.says("Of one place the least.");
        String sixty = "come " + "1=1 or ".repeat(20);
        Check.badRule(sixty + "^x=1", 0);
        Check.badRule(sixty + "^123456=1", 1);
        Check.badRule(sixty + "^", 0);
        Check.badRule(sixty + "^+", 0);
        Check.badRule(sixty + "^]", 0);
        Check.badRule("come " + "1=1 or ".repeat(18) + "1+1+1=1 or 1 ^!", 0);
        Check.badRule("come " + "1=1 or ".repeat(18) + "1+1+1=1 or 1^", 0);
        Check.badRule(sixty + "[".repeat(10) + "^[", 2);
        Check.badRule("come 1=1;".repeat(12) + "^comes", 0);
        // and of several places the first
        Check.badRule("come ^x = 123456;" + "[".repeat(11), 0);
        Check.badRule("come ^123456 = x", 1);
        Check.badRule("come " + "[".repeat(10) + "^[123456=x", 2);
        Check.badRule(sixty + "^1=123456", 3);
        Check.badRule("come 1=1;".repeat(12) + "^come 123456", 4);
    }

    private static void itsNumber() {
        Doc.says("The TAPE, which is empty then, is a RULE: its number; -2 - its FAULT; NONE, and nothing happens: there are 6.");
        AfterTheLast x = new AfterTheLast();
        for (int i = 0; i < 6; i++) {
            Check.is("an empty tape", x.rule(), -3);
            Check.is("a fault", Check.rule(x, "come"), -2 - 33);
            Check.is("the tape is empty then", x.count(13), 0);
            Check.is("its number", Check.rule(x, "come 1=1"), i);
            Check.is("the tape is empty then", x.count(13), 0);
            Check.is("rules", x.count(2), i + 1);
        }
        Twins.same("a fault", y -> { Twins.some(y); y.end(0); Check.rule(y, "hold"); }, y -> { Twins.some(y); y.end(0); });
        AfterTheLast z = Check.with("house free 1 0;stay 0 0 0 9 0");
        Check.rule(z, "come 1=1");
        Check.street(z, "house free 1 0;stay 0 0 2 9 0");
        Check.is("a street leaves the rules", z.tick(0, 3), 3);
        Check.is("he came", z.count(7), 1);
    }

    private static void sixRules() {
        String[] tapes = {"", "come 1=1", "come 1=1;", "house free 2 2;stay 4 0 1 2 3"};
        for (String tape : tapes) {
            Twins.leave("a seventh rule of '" + tape + "'", x -> {
                Twins.some(x);
                x.end(0);
                for (int i = 2; i < 6; i++) {
                    Check.rule(x, "come 1=" + i);
                }
                Check.tell(x, tape);
            }, AfterTheLast::rule, -1);
        }
    }

    /** A rule of 60 parts, ten deep and of twelve clauses, that lets come whoever is below a number. */
    private static String atAllLimits(int person) {
        return "come " + "[".repeat(8) + "not not person < " + person + "]".repeat(8) + " and not " + "1+".repeat(17) + "1=1 or now+now>1"
            + ";hold 1=2".repeat(10) + ";window 2=1";
    }

    private static void eachRuleBeginsAnew() {
        Check.badRule(atAllLimits(1).replace("2=1", "2+1=^1"), 3);
        Check.badRule(atAllLimits(1).replace("not not", "not not ^not"), 2);
        Check.badRule(atAllLimits(1) + ";^hold", 4);
        AfterTheLast x = Check.with("house free 9 0;stay 0 0 0 9 0;stay 1 0 0 9 0;stay 2 0 0 9 0;stay 3 0 0 9 0;stay 4 0 0 9 0;stay 5 0 0 9 0");
        for (int rule = 0; rule < 6; rule++) {
            Check.is("rule " + rule, Check.rule(x, atAllLimits(rule)), rule);
            Check.is("by rule " + rule, x.ahead(rule, 1, 0), rule);
        }
        for (int rule = 0; rule < 6; rule++) {
            Check.is("still by rule " + rule, x.ahead(rule, 1, 0), rule);
        }
        // whatever was read ahead of a fault is gone
        String cut = "come not [now + 2 * 3 < 4 or [1=1 and not 2=2]] and not [not [1 - 7/2 >= 3 and [[[1=1]]]]];hold 1=1;window 1=2";
        for (int bytes = 0; bytes <= cut.length(); bytes++) {
            AfterTheLast y = Check.with("house free 9 0;stay 0 0 0 9 0;stay 1 0 0 9 0");
            Check.rule(y, cut.substring(0, bytes));
            int rule = Check.rule(y, atAllLimits(1));
            Check.is("behind '" + cut.substring(0, bytes) + "'", rule, y.count(2) - 1);
            Check.is("who comes", y.ahead(rule, 1, 0), 1);
        }
    }
}

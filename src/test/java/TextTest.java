/** Promises 2 (feed), 3 (end), 4 (street) and 5 (rule): the tape, the two languages and their faults. */
public final class TextTest {
    public static void main(String[] args) {
        feedTakesTwentyBytes();
        endCutsTheTape();
        streetsThatStand();
        faultsOfStreets();
        tooManyInAStreet();
        whatAStreetLeaves();
        rulesThatStand();
        faultsOfRules();
        whatWasCutOff();
        tooDeep();
        tooManyParts();
        tooManyClauses();
        sixRules();
        Check.done();
    }

    private static String times(int many, String text) {
        return text.repeat(many);
    }

    private static void street(String text, int due) {
        Check.is("street '" + text + "'", Check.street(new AfterTheLast(), text), due);
    }

    private static void badStreet(String text, int place, int kind) {
        street(text, Check.fault(place, kind));
    }

    private static void rule(String text, int due) {
        Check.is("rule '" + text + "'", Check.rule(new AfterTheLast(), text), due);
    }

    private static void badRule(String text, int place, int kind) {
        rule(text, Check.fault(place, kind));
    }

    private static void feedTakesTwentyBytes() {
        AfterTheLast x = new AfterTheLast();
        for (int i = 1; i <= 20; i++) {
            Check.is("feed " + i, x.feed(i, 0, 0, 0, 0), 20 * i);
        }
        Check.is("feed of more than 400", x.feed(1, 2, 3, 4, 5), -1);
        Check.is("400 stay", x.count(13), 400);
        Check.is("end 381", x.end(381), 381);
        Check.is("feed of 401", x.feed(1, 2, 3, 4, 5), -1);
        Check.is("381 stay", x.count(13), 381);
        Check.is("end 380", x.end(380), 380);
        Check.is("feed to 400 again", x.feed(1, 2, 3, 4, 5), 400);

        AfterTheLast y = new AfterTheLast();
        // "hous" "e fr" "ee 7" " 3  " "    ": of each number the highest byte first
        y.feed(0x686f7573, 0x65206672, 0x65652037, 0x20332020, 0x20202020);
        Check.is("the bytes are in their order", y.street(), 1);
        Check.is("law", y.house(0, 0), 2);
        Check.is("room", y.house(0, 1), 7);
        Check.is("windows", y.house(0, 2), 3);
        y.feed(0x20202020, 0x20ffffff, -1, -1, -1);
        Check.is("bytes above 127 are bytes", y.street(), Check.fault(5, 0));
    }

    private static void endCutsTheTape() {
        AfterTheLast x = new AfterTheLast();
        Check.is("end 0 of none", x.end(0), 0);
        Check.is("end 1 of none", x.end(1), -1);
        x.feed(0, 0, 0, 0, 0);
        Check.is("end below 0", x.end(-1), -1);
        Check.is("end of the least", x.end(Integer.MIN_VALUE), -1);
        Check.is("end 21", x.end(21), -1);
        Check.is("nothing happened", x.count(13), 20);
        Check.is("end 20", x.end(20), 20);
        Check.is("end 7", x.end(7), 7);
        Check.is("7 are left", x.count(13), 7);
        Check.is("end 8", x.end(8), -1);
    }

    private static void streetsThatStand() {
        street("house last 1 0", 1);
        street("house first 12 9", 1);
        street("house free 00012 00000", 1);
        street("  house   last3 1  ", 1);
        street("house last 3 1;house free 2 0 ; house first 1 9", 3);
        street("house last 3 1;stay 11 0 0 95 99;stay0 0 94 95 0", 1);
        street("house last 3 1;stay 0 0 0 1 0;house last 3 1;stay 0 1 0 1 0", 2);
        String full = times(6, "house free 1 0;") + times(17, "stay 0 0 0 1 0;") + "stay 0 5 0 1 0";
        street(full, 6);
        street(full + times(400 - full.length(), " "), 6);
    }

    private static void faultsOfStreets() {
        badStreet("", 0, 0);
        badStreet("   ", 3, 0);
        badStreet("house", 5, 0);
        badStreet("house  ", 7, 0);
        badStreet("houses last 1 1", 0, 0);
        badStreet(" houselast 1 1", 1, 0);
        badStreet("housea last 1 1", 0, 0);
        badStreet("housez last 1 1", 0, 0);
        street("house last1 1", 1);
        badStreet("House last 1 1", 0, 0);
        badStreet("hous e last 1 1", 0, 0);
        badStreet(";house last 1 1", 0, 0);
        badStreet("come now = 1", 0, 0);
        badStreet("\thouse last 1 1", 0, 0);
        badStreet("house\u0000last 1 1", 5, 0);
        badStreet("house x 1 1", 6, 0);
        badStreet("house lasts 1 1", 6, 0);
        badStreet("house 1 1", 6, 0);
        badStreet("house last", 10, 0);
        badStreet("house last x", 11, 0);
        badStreet("house last 0 1", 11, 1);
        badStreet("house last 13 1", 11, 1);
        badStreet("house last 000001 1", 11, 1);
        badStreet("house last 123456789012 1", 11, 1);
        badStreet("house last 3", 12, 0);
        badStreet("house last 3;", 12, 0);
        badStreet("house last 3 10", 13, 1);
        badStreet("house last 3 -1", 13, 0);
        badStreet("house last 3 1;", 15, 0);
        badStreet("house last 3 1; ", 16, 0);
        badStreet("house last 3 1 1", 15, 0);
        badStreet("house last 3 1 123456", 15, 0);
        badStreet("house last 3 1x", 14, 0);
        badStreet("house last 3 1 ;;", 16, 0);
        badStreet("house last 3 1 house last 3 1", 15, 0);
        badStreet("stay 0 0 0 1 5", 7, 1);
        badStreet("stay 12 0 0 1 5", 5, 1);
        String h = "house last 3 1;";
        badStreet(h + "stay 12 0 0 1 1", 20, 1);
        badStreet(h + "stay 0 1 0 1 1", 22, 1);
        badStreet(h + "stay 0 1 0 1 1;" + h, 22, 1);
        badStreet(h + "stay 0 0 96 97 1", 24, 1);
        badStreet(h + "stay 0 0 5 5 1", 26, 1);
        badStreet(h + "stay 0 0 5 4 1", 26, 1);
        badStreet(h + "stay 0 0 95 95 1", 27, 1);
        badStreet(h + "stay 0 0 5 96 1", 26, 1);
        badStreet(h + "stay 0 0 5 6 100", 28, 1);
        badStreet(h + "stay 0 0 5 6", 27, 0);
        badStreet(h + "stay 0 0 5 x", 26, 0);
        badStreet(h + "stays 0 0 5 6 1", 15, 0);
        badStreet(h + "stay 0 0 5 6 1 1", 30, 0);
    }

    private static void tooManyInAStreet() {
        String six = times(6, "house last 1 0;");
        badStreet(six + "house last 1 0", 90, 4);
        badStreet(six + "  house x", 92, 4);
        badStreet(six + "houses", 90, 0);
        String stays = "house last 1 0;" + times(18, "stay 0 0 0 1 0;");
        badStreet(stays + "stay 0 0 0 1 0", 285, 4);
        badStreet(stays + "stay", 285, 4);
        badStreet(stays + "stays", 285, 0);
        badStreet(stays + "", 285, 0);
        street(stays + "house last 1 0", 2);
        String all = six + times(18, "stay 0 0 0 1 0;");
        badStreet(all + "house last 1 0", 360, 4);
        badStreet(all + "stay 0 0 0 1 0", 360, 4);
        badStreet(all + "x", 360, 0);
        badStreet(all, 360, 0);
    }

    private static void whatAStreetLeaves() {
        AfterTheLast x = Check.with("house free 3 1;stay 0 0 0 9 1");
        Check.rule(x, "come 1 = 1");
        x.tick(0, 12);
        x.come(5, 0);
        x.come(0, 0);
        x.waits(2, 3);
        x.worth(1, 9);
        x.wishes(0, 0, 0, 3, 1);
        x.went(4);
        x.before(1, 2);
        x.guest(1, 2);
        x.seed(77);
        x.image(2);
        String was = Check.state(x);
        Check.is("a street with a fault", Check.street(x, "house free 3"), Check.fault(12, 0));
        Check.is("the tape is empty then", x.count(13), 0);
        Check.same("a street with a fault", x, was);

        Check.is("another street", Check.street(x, "house last 2 2;house last 4 3;stay 1 1 0 4 7"), 2);
        Check.is("the tape is empty", x.count(13), 0);
        Check.is("stays", x.count(1), 1);
        Check.is("rules stay", x.count(2), 1);
        Check.is("now", x.count(3), 0);
        Check.is("late", x.count(4), 0);
        Check.is("served", x.count(5), 0);
        Check.is("all outside", x.count(7), 0);
        Check.is("he is outside", x.person(5, 0), -1);
        Check.is("nobody waits", x.person(2, 4), -1);
        Check.is("worths of going stay", x.person(1, 5), 9);
        Check.is("wishes stay", x.count(8), 1);
        Check.is("who went stays", x.count(9), 1);
        Check.is("facts stay", x.count(10), 1);
        Check.is("guests stay", x.count(11), 1);
        Check.is("x stays", x.count(12), 77);
        Check.is("images stay", x.back(2), 12);
        Check.same("back", x, was);
    }

    private static void rulesThatStand() {
        rule("come now = 1", 0);
        rule("hold now<=1", 0);
        rule("window windows>=1", 0);
        rule(" come  now*2+3-person/house < inside + after ; hold room > windows ; window worth = late + long ", 0);
        rule("come not not[now=1or not now=2and 3=3]", 0);
        rule("come [[now = 1]]", 0);
        rule("come now = 99999", 0);
        rule("come 00000 = 1", 0);
        rule("come now=1or now=2", 0);
        rule("come now = 1;come now = 2;hold now = 3", 0);
        rule("come " + times(19, "1=1 or ") + "1=1" + times(259, " "), 0);
    }

    private static void faultsOfRules() {
        badRule("", 0, 0);
        badRule("come", 4, 0);
        badRule("come ", 5, 0);
        badRule("come 1", 6, 0);
        badRule("come 1  ", 8, 0);
        badRule("hold now >", 10, 0);
        badRule("comes 1", 0, 0);
        badRule("house last 1 1", 0, 0);
        badRule("windows now = 1", 0, 0);
        badRule("window now = 1;", 15, 0);
        badRule("window now = 1;x", 15, 0);
        badRule("come now = 1]", 12, 0);
        badRule("come [now = 1", 13, 0);
        badRule("come [now = 1;", 13, 0);
        badRule("come [now = 1]]", 14, 0);
        badRule("come []", 6, 0);
        badRule("come now < = 1", 11, 0);
        badRule("come now =< 1", 10, 0);
        badRule("come now=>1", 9, 0);
        badRule("come now == 1", 10, 0);
        badRule("come now ! 1", 9, 0);
        badRule("come now = 1 = 2", 13, 0);
        badRule("come 1 and now = 1", 7, 0);
        badRule("come [1 + 2] = 3", 11, 0);
        badRule("come 1 + [2] = 3", 9, 0);
        badRule("come now = [1]", 11, 0);
        badRule("come [now = 1] + 1 = 2", 15, 0);
        badRule("come [now = 1] = 2", 15, 0);
        badRule("come not", 8, 0);
        badRule("come notnow = 1", 5, 0);
        badRule("come now = not 1", 11, 0);
        badRule("come xor = 1", 5, 0);
        badRule("come now = 1 xor now = 2", 13, 0);
        badRule("come and now = 1", 5, 0);
        badRule("come now = 123456", 11, 1);
        badRule("come 000000 = 1", 5, 1);
        badRule("come now = 1 222222", 13, 0);
        badRule("hold window = 1", 5, 0);
        badRule("hold till = 1", 5, 0);
        badRule("come now + = 1", 11, 0);
        badRule("come now * / 1", 11, 0);
        badRule("come -1 = 1", 5, 0);
        badRule("come now = -1", 11, 0);
        badRule("come now = 1 or", 15, 0);
        badRule("come now = 1 and ;", 17, 0);
        badRule("come now = 1 come now = 1", 13, 0);
        badRule("come Now = 1", 5, 0);
        badRule("come now = 1\u0000", 12, 0);
        badRule("come now = 1 not", 13, 0);
    }

    /** What was cut off by end is no longer there. */
    private static void whatWasCutOff() {
        AfterTheLast x = new AfterTheLast();
        Check.tell(x, "come now <= 1");
        x.end(10);
        Check.is("cut behind <", x.rule(), Check.fault(10, 0));
        Check.tell(x, "come now = 1 or 2 = 2");
        x.end(12);
        Check.is("cut behind a test", x.rule(), 0);
        Check.tell(x, "come now = 1");
        x.end(7);
        Check.is("cut within a word", x.rule(), Check.fault(5, 0));
        Check.tell(x, "house last 1 12");
        x.end(14);
        Check.is("cut within a number", x.street(), 1);
        Check.is("1 window", x.house(0, 2), 1);
        Check.tell(x, "house free 1 1");
        x.end(9);
        Check.is("cut within a law", x.street(), Check.fault(6, 0));
        Check.tell(x, "house free 2 2 x");
        x.end(14);
        Check.is("cut ahead of a fault", x.street(), 1);
    }

    private static void tooDeep() {
        rule("come " + times(10, "[") + "1=1" + times(10, "]"), 0);
        badRule("come " + times(11, "[") + "1=1" + times(11, "]"), 15, 2);
        rule("come " + times(10, "not ") + "1=1", 0);
        badRule("come " + times(11, "not ") + "1=1", 45, 2);
        rule("come " + times(5, "not[") + "1=1" + times(5, "]"), 0);
        badRule("come " + times(5, "not[") + "not 1=1" + times(5, "]"), 25, 2);
        badRule("come " + times(5, "not[") + "1=1 and [1=1]" + times(5, "]"), 33, 2);
        // those that lie beside one another are not deep
        rule("come " + times(14, "[1=1]and ") + "[1=1]", 0);
        rule("come " + times(14, "not 1=1 or ") + "not 1=1", 0);
        rule("come " + times(9, "[") + "[1=1]and[1=1]or not 1=1 and not 1=1" + times(9, "]") + "and " + times(10, "[") + "1=1" + times(10, "]"), 0);
        badRule("come " + times(9, "[") + "[1=1]and[1=1]or not 1=1 and not not 1=1", 46, 2);
        rule("come " + times(10, "not ") + "1=1;hold " + times(10, "not ") + "1=1", 0);
        // a fault ahead of it comes first, a fault behind it does not
        badRule("come x " + times(11, "["), 5, 0);
        badRule("come " + times(11, "[") + "x", 15, 2);
    }

    private static void tooManyParts() {
        String twenty = "come " + times(20, "1=1 or ");
        badRule(twenty + "1=1", 145, 3);
        badRule(twenty + "now=1", 145, 3);
        badRule(twenty + "x=1", 145, 0);
        badRule(twenty + "123456=1", 145, 1);
        badRule(twenty + "[1=1]", 146, 3);
        badRule(twenty + "not 1=1", 149, 3);
        badRule(twenty, 145, 0);
        String nineteen = "come " + times(19, "1=1 or ");
        badRule(nineteen + "1+1+1=1", 143, 3);
        badRule(nineteen + "1+1+1<=1", 143, 3);
        badRule(nineteen + "1+1+1", 143, 0);
        badRule(nineteen + "1+1+1+1=1", 144, 3);
        badRule(nineteen + "1+1=1", 142, 3);
        rule(nineteen + "1=1", 0);
        // all clauses together
        badRule("come 1=1;hold " + times(18, "1=1 or ") + "1=1;window 1=1", 13 + 1 + 18 * 7 + 3 + 1 + 7, 3);
        rule("come 1=1;hold " + times(17, "1=1 or ") + "1=1;window 1=1", 0);
        // 30 values without a sign
        badRule("come " + times(60, "1+") + "1=1", 125, 3);
        badRule("come " + times(59, "1*") + "1=1", 124, 3);
    }

    private static void tooManyClauses() {
        String twelve = times(12, "come 1=1;");
        rule(twelve.substring(0, twelve.length() - 1), 0);
        badRule(twelve + "come 1=1", 108, 4);
        badRule(twelve + " hold", 109, 4);
        badRule(twelve + "window", 108, 4);
        badRule(twelve + "x", 108, 0);
        badRule(twelve, 108, 0);
    }

    private static void sixRules() {
        AfterTheLast x = new AfterTheLast();
        for (int i = 0; i < 6; i++) {
            Check.is("a fault makes no rule", Check.rule(x, "come 1"), Check.fault(6, 0));
            Check.is("the tape is empty behind a fault", x.count(13), 0);
            Check.is("rules so far", x.count(2), i);
            Check.is("rule " + i, Check.rule(x, "come 1 = " + i), i);
            Check.is("the tape is empty", x.count(13), 0);
        }
        Check.tell(x, "come 1 = 1");
        String was = Check.state(x);
        Check.is("a seventh rule", x.rule(), -1);
        Check.is("the tape stays", x.count(13), 10);
        Check.same("a seventh rule", x, was);
        Check.tell(x, "x");
        x.end(11);
        Check.is("a seventh rule, with a fault", x.rule(), -1);
    }
}

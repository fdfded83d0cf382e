/** The boundary cases of promise 4 (street) and of the language of a STREET. In a text ^ marks where its fault is. */
public final class StreetEdgeTest {
    private static final String HOUSE = "house free 1 0";
    private static final String STAY = "stay 0 0 0 1 0";

    public static void main(String[] args) {
        ofAtMost400Bytes();
        atMost24Clauses();
        lawsRoomsAndWindows();
        numbersOfAStay();
        inTheOrderTold();
        nowAtFirst();
        digits();
        letters();
        blanks();
        theEnd();
        bytesThatCannotStand();
        notAsTold();
        tooMany();
        theFirstAlongTheText();
        theLeastOfOnePlace();
        inPlaceOfTheOneBefore();
        allElseStays();
        eachStreetBeginsAnew();
        Check.done();
    }

    private static String times(int many, String clause) {
        return (clause + ";").repeat(many);
    }

    private static String blanks(int many) {
        return " ".repeat(many);
    }

    private static void ofAtMost400Bytes() {
        Doc.says("A STREET is a text of at most 400 bytes");
        AfterTheLast x = new AfterTheLast();
        Check.is("the last byte is a number", Check.street(x, blanks(386) + "house free 1 9"), 1);
        Check.is("windows", x.house(0, 2), 9);
        Check.tell(x, blanks(386) + "house free 1 9");
        x.end(399);
        Check.is("without its last byte", x.street(), Check.fault(399, 0));
        Check.badStreet(blanks(386) + "house free 1 ^x", 0);
        Check.badStreet(blanks(385) + "house free 1 9^x", 0);
        Check.badStreet(blanks(385) + "house free 1 9;^", 0);
        Check.badStreet(blanks(387) + "house free 1 ^", 0);
        Check.badStreet(blanks(388) + "house free 1^", 0);
        Check.badStreet(blanks(395) + "house^", 0);
        Check.badStreet(blanks(396) + "^hous", 0);
        Check.badStreet(blanks(400) + "^", 0);
    }

    private static void atMost24Clauses() {
        Doc.says("CLAUSE { ; CLAUSE }, 24 at most");
        String all = times(6, HOUSE) + times(17, STAY) + STAY;
        Check.goodStreet(all, 6);
        Check.goodStreet(all + blanks(400 - all.length()), 6);
        Check.badStreet(all + ";^" + HOUSE, 4);
        Check.badStreet(all + ";^" + STAY, 4);
        Check.badStreet(all + "; ^stay", 4);
        Check.badStreet(all + ";^", 0);
        Check.badStreet(all + " ^x", 0);
        Check.goodStreet(HOUSE, 1);
    }

    private static void lawsRoomsAndWindows() {
        Doc.says("house LAW NUMBER NUMBER (LAW: last, first or free; room 1 to 12; windows 0 to 9)");
        String[] laws = {"last", "first", "free"};
        for (int law = 0; law < 3; law++) {
            for (int room = 1; room <= 12; room++) {
                for (int windows = 0; windows <= 9; windows++) {
                    AfterTheLast x = Check.with("house " + laws[law] + " " + room + " " + windows);
                    Check.is("law", x.house(0, 0), law);
                    Check.is("room", x.house(0, 1), room);
                    Check.is("windows", x.house(0, 2), windows);
                }
            }
            String house = "house " + laws[law] + " ";
            Check.badStreet(house + "^0 0", 1);
            Check.badStreet(house + "^00000 0", 1);
            Check.badStreet(house + "^13 0", 1);
            Check.badStreet(house + "^99999 0", 1);
            Check.badStreet(house + "12 ^10", 1);
            Check.badStreet(house + "1 ^99999", 1);
        }
        String[] none = {"lasts", "las", "Last", "firs", "firsts", "fre", "freed", "stay", "house", "lastfirst", "LAST"};
        for (String law : none) {
            Check.badStreet("house ^" + law + " 1 1", 0);
        }
        Check.badStreet("house ^1 1", 0);
        Check.badStreet("house last ^first 1 1", 0);
    }

    private static void stay(int person, int house, int from, int till, int worth) {
        AfterTheLast x = Check.with(times(6, HOUSE) + "stay " + person + " " + house + " " + from + " " + till + " " + worth);
        int[] due = {person, house, from, till, worth, 0};
        for (int what = 0; what < 6; what++) {
            Check.is("what " + what, x.stay(0, what), due[what]);
        }
    }

    private static void numbersOfAStay() {
        Doc.says("stay NUMBER NUMBER NUMBER NUMBER NUMBER (a person 0 to 11, a HOUSE that was told ahead, from and till: QUARTERS 0 to 95, till above from; worth 0 to 99)");
        stay(0, 0, 0, 1, 0);
        stay(11, 5, 94, 95, 99);
        stay(0, 5, 0, 95, 0);
        String h = HOUSE + ";";
        Check.badStreet(h + "stay ^12 0 0 1 0", 1);
        Check.badStreet(h + "stay 0 ^1 0 1 0", 1);
        Check.badStreet(h + "stay 0 ^6 0 1 0", 1);
        Check.badStreet(times(6, HOUSE) + "stay 0 ^6 0 1 0", 1);
        Check.badStreet("stay 0 ^0 0 1 0", 1);
        Check.badStreet("stay 0 ^0 0 1 0;" + HOUSE, 1);
        Check.badStreet(h + "stay 0 ^1 0 1 0;" + HOUSE, 1);
        Check.goodStreet(h + h + "stay 0 1 0 1 0", 2);
        Check.badStreet(h + "stay 0 0 ^96 97 0", 1);
        Check.badStreet(h + "stay 0 0 ^96 0 0", 1);
        Check.badStreet(h + "stay 0 0 0 ^0 0", 1);
        Check.badStreet(h + "stay 0 0 0 ^96 0", 1);
        Check.badStreet(h + "stay 0 0 94 ^94 0", 1);
        Check.badStreet(h + "stay 0 0 94 ^93 0", 1);
        Check.badStreet(h + "stay 0 0 95 ^95 0", 1);
        Check.badStreet(h + "stay 0 0 95 ^96 0", 1);
        Check.badStreet(h + "stay 0 0 0 1 ^100", 1);
        Check.badStreet(h + "stay 0 0 0 1 99 ^0", 0);
    }

    private static void inTheOrderTold() {
        Doc.says("HOUSES 0 to 5, STAYS 0 to 17, in the order told; PEOPLE 0 to 11, all there.");
        StringBuilder b = new StringBuilder();
        for (int h = 0; h < 6; h++) {
            b.append("house free ").append(7 + h).append(" 0;");
        }
        for (int s = 0; s < 18; s++) {
            b.append("stay ").append(s % 12).append(" 0 0 ").append(1 + s).append(" 0").append(s < 17 ? ";" : "");
        }
        AfterTheLast x = Check.with(b.toString());
        for (int h = 0; h < 6; h++) {
            Check.is("room of " + h, x.house(h, 1), 7 + h);
        }
        for (int s = 0; s < 18; s++) {
            Check.is("till of " + s, x.stay(s, 3), 1 + s);
        }
        Check.is("house 6", x.house(6, 1), -1);
        Check.is("stay 18", x.stay(18, 3), -1);
        Check.is("stays", x.count(1), 18);
        AfterTheLast mixed = Check.with("house free 1 0;stay 0 0 0 3 0;house free 2 0;stay 0 1 0 4 0");
        Check.is("room of 1", mixed.house(1, 1), 2);
        Check.is("till of 1", mixed.stay(1, 3), 4);
        for (int p = 0; p < 12; p++) {
            Check.is("person " + p, new AfterTheLast().person(p, 0), -1);
        }
        Check.is("person 12", new AfterTheLast().person(12, 0), -2);
    }

    private static void nowAtFirst() {
        Doc.says("NOW: a QUARTER 0 to 96 (0 at first).");
        AfterTheLast x = new AfterTheLast();
        Check.is("at first", x.count(3), 0);
        Check.rule(x, "come 1=1");
        Check.is("96", x.tick(0, 96), 96);
        Check.is("not 97", x.tick(0, 1), -1);
        Check.is("now", x.count(3), 96);
        Check.street(x, HOUSE);
        Check.is("0 again", x.count(3), 0);
    }

    private static void digits() {
        Doc.says("NUMBER (1 to 5 digits, as far as digits go on)");
        Check.goodStreet("house free 00001 00000", 1);
        Check.goodStreet("house free 00012 9", 1);
        Check.badStreet("house free ^000001 0", 1);
        Check.badStreet("house free 1 ^000000", 1);
        Check.badStreet("house free ^112 0", 1);
        Check.badStreet("house free ^4294967297 0", 1);
        Check.badStreet("house free ^18446744073709551617 0", 1);
        Check.badStreet("house free ^" + "1".repeat(389), 1);
        Check.badStreet("house free 1 0^x", 0);
        Check.badStreet("house free 1 ^x0", 0);
        Check.badStreet("house free 1^,0", 0);
        Check.goodStreet(HOUSE + ";stay 00011 00000 00094 00095 00099", 1);
    }

    private static void letters() {
        Doc.says("WORDS (small letters, as far as these go on)");
        Check.goodStreet("house free1 0;stay0 0 0 1 0", 1);
        Check.badStreet("^housefree 1 0", 0);
        Check.badStreet("^a", 0);
        Check.badStreet("^z", 0);
        Check.badStreet("^houseaaaa", 0);
        Check.badStreet("^housezzzz", 0);
        Check.badStreet(HOUSE + ";^stayz 0 0 0 1 0", 0);
        Check.badStreet("house^` free 1 0", 0);
        Check.badStreet("house^{ free 1 0", 0);
        Check.badStreet("house^A free 1 0", 0);
    }

    private static void blanks() {
        Doc.says("Blanks (32) stand between as one likes.");
        Check.goodStreet("   house    free    1    0   ", 1);
        Check.goodStreet("house free 1 0 ; stay 0 0 0 1 0 ; house free 1 0 ", 2);
        Check.goodStreet("house free1 0;stay0 0 0 1 0;house free1 0", 2);
        Check.badStreet("^hou se free 1 0", 0);
        Check.badStreet("house free 1 0 ^0", 0);
        Check.goodStreet("house free 1 0", 1);
        int[] others = {0, 9, 10, 11, 12, 13, 31, 33, 160};
        for (int sign : others) {
            Check.badStreet("house^" + (char) sign + "free 1 0", 0);
            Check.badStreet("^" + (char) sign + "house free 1 0", 0);
            Check.badStreet("house free 1 0^" + (char) sign, 0);
        }
    }

    private static void theEnd() {
        Doc.says("or the end (behind the last byte)");
        String[] cut = {"^", "^h", "^hous", "house^", "house ^", "house ^l", "house ^las", "house last^", "house last ^",
            "house last 3^", "house last 3 ^", "house last 3 1;^", "house last 3 1; ^", "house last 3 1;^s",
            "house last 3 1;^sta", "house last 3 1;stay^", "house last 3 1;stay 0^", "house last 3 1;stay 0 0^",
            "house last 3 1;stay 0 0 0^", "house last 3 1;stay 0 0 0 1^", "house last 3 1;stay 0 0 0 1 ^",
            "house last 3 1;stay 0 0 0 1 1;^", "house last 3 1;stay 0 0 0 1 1 ; ^"};
        for (String text : cut) {
            Check.badStreet(text, 0);
        }
        Check.goodStreet("house last 3 1", 1);
        Check.goodStreet("house last 3 1;stay 0 0 0 1 1", 1);
    }

    private static void bytesThatCannotStand() {
        Doc.says("0 a byte or WORD that can't stand there");
        String[] bad = {"^;house last 3 1", "^1", "^,", "^come 1=1", "^stays 0 0 0 1 1", "^last 3 1", "house^;", "house ^3 1",
            "house ^- 3 1", "house last ^-3 1", "house last ^x 1", "house last 3 ^-1", "house last 3 ^x",
            "house last 3^;1", "house last 3 1 ^1", "house last 3 1 ^house", "house last 3 1^.", "house last 3 1;^;",
            "house last 3 1;^x", "house last 3 1;stay ^x", "house last 3 1;stay^;", "house last 3 1;stay 0 ^x",
            "house last 3 1;stay 0 0 ^x", "house last 3 1;stay 0 0 0 ^x", "house last 3 1;stay 0 0 0 1 ^x",
            "house last 3 1;stay 0 0 0 1 1 ^stay", "house last 3 1;stay 0 0 0 1^;", "house last 3^+1 1"};
        for (String text : bad) {
            Check.badStreet(text, 0);
        }
    }

    private static void notAsTold() {
        Doc.says("1 a NUMBER of more digits, or not as told");
        String[] bad = {"house last ^0 1", "house last ^13 1", "house last ^000003 1", "house last 3 ^10", "house last 3 ^000001",
            "house last 3 1;stay ^12 0 0 1 1", "house last 3 1;stay ^000000 0 0 1 1", "house last 3 1;stay 0 ^1 0 1 1",
            "house last 3 1;stay 0 ^000000 0 1 1", "house last 3 1;stay 0 0 ^96 1 1", "house last 3 1;stay 0 0 ^000000 1 1",
            "house last 3 1;stay 0 0 7 ^7 1", "house last 3 1;stay 0 0 7 ^000008 1", "house last 3 1;stay 0 0 0 1 ^100",
            "house last 3 1;stay 0 0 0 1 ^000001"};
        for (String text : bad) {
            Check.badStreet(text, 1);
        }
    }

    private static void tooMany() {
        Doc.says("4 one CLAUSE too many, a seventh HOUSE, a 19th STAY (at its first byte)");
        Check.goodStreet(times(5, HOUSE) + HOUSE, 6);
        Check.badStreet(times(6, HOUSE) + "^" + HOUSE, 4);
        Check.badStreet(times(6, HOUSE) + "   ^" + HOUSE, 4);
        Check.badStreet(times(6, HOUSE) + STAY + ";^" + HOUSE, 4);
        Check.badStreet(times(6, HOUSE) + "^house", 4);
        Check.goodStreet(times(1, HOUSE) + times(17, STAY) + STAY, 1);
        Check.badStreet(times(1, HOUSE) + times(18, STAY) + "^" + STAY, 4);
        Check.badStreet(times(1, HOUSE) + times(18, STAY) + "  ^" + STAY, 4);
        Check.badStreet(times(1, HOUSE) + times(18, STAY) + "^stay", 4);
        Check.badStreet(times(1, HOUSE) + times(18, STAY) + HOUSE + ";^" + STAY, 4);
        Check.goodStreet(times(1, HOUSE) + times(18, STAY) + HOUSE, 2);
        Check.goodStreet(times(6, HOUSE) + STAY, 6);
        Check.badStreet(times(6, HOUSE) + times(18, STAY) + "^" + HOUSE, 4);
        Check.badStreet(times(6, HOUSE) + times(18, STAY) + "^" + STAY, 4);
    }

    private static void theFirstAlongTheText() {
        Doc.says("FAULTS, the first along the text, 1 + 8 * its place and");
        Check.is("1 + 8 * 0 + 0", Check.street(new AfterTheLast(), "x"), -3);
        Check.is("1 + 8 * 5 + 0", Check.street(new AfterTheLast(), "house"), -2 - 41);
        Check.is("1 + 8 * 11 + 1", Check.street(new AfterTheLast(), "house last 0 0"), -2 - 90);
        Check.badStreet("house ^x 0 10", 0);
        Check.badStreet("house last ^0 10", 1);
        Check.badStreet("house last ^0", 1);
        Check.badStreet("house last ^0 x", 1);
        Check.badStreet("house last 1 ^10;x", 1);
        Check.badStreet("house last 1 1;stay ^12 9 96 0 100", 1);
        Check.badStreet("house last 1 1;stay 11 ^9 96 0 100", 1);
        Check.badStreet("house last 1 1;stay 11 0 ^96 0 100", 1);
        Check.badStreet("house last 1 1;stay 11 0 95 ^0 100", 1);
        Check.badStreet("house last 1 1;stay 11 0 0 1 ^100;;", 1);
        Check.badStreet(times(6, HOUSE) + "^house last 0 10", 4);
        Check.badStreet("house last ^0 0;" + times(6, HOUSE) + HOUSE, 1);
    }

    private static void theLeastOfOnePlace() {
        Doc.says("Of one place the least.");
        Check.badStreet(times(6, HOUSE) + "^houses", 0);
        Check.badStreet(times(6, HOUSE) + "^", 0);
        Check.badStreet(times(6, HOUSE) + "^;", 0);
        Check.badStreet(times(6, HOUSE) + "^1", 0);
        Check.badStreet(HOUSE + ";" + times(18, STAY) + "^stays", 0);
        Check.badStreet(times(6, HOUSE) + times(18, STAY) + "^come", 0);
        Check.badStreet("house last ^123456x 0", 1);
    }

    private static void inPlaceOfTheOneBefore() {
        Doc.says("The TAPE, which is empty then, is the STREET in place of the one there was (all outside, NOW, LATE 0; nobody WAITS; worths of going, WISHES, WENT, AHEAD facts, GUESTS, x, IMAGES stay): how many HOUSES");
        AfterTheLast x = new AfterTheLast();
        Twins.some(x);
        x.tick(1, 60);
        Check.is("somebody was late", x.count(4) > 0, true);
        x.end(0);
        int[] stay = new int[14];
        for (int what = 0; what < 14; what++) {
            stay[what] = x.count(what);
        }
        Check.is("how many houses", Check.street(x, "house first 2 7;stay 9 0 8 9 1;stay 0 0 0 1 2"), 1);
        int[] due = {1, 2, stay[2], 0, 0, 0, 0, 0, stay[8], stay[9], stay[10], stay[11], stay[12], 0};
        for (int what = 0; what < 14; what++) {
            Check.is("count " + what, x.count(what), due[what]);
        }
        for (int p = 0; p < 12; p++) {
            Check.is(p + " is outside", x.person(p, 0), -1);
            Check.is(p + " has no stay", x.person(p, 1), -1);
            Check.is(p + " may not go", x.person(p, 2), 0);
            Check.is(p + " has nobody behind him", x.person(p, 3), 0);
            Check.is(p + " waits for nobody", x.person(p, 4), -1);
        }
        Check.is("worth of going of 2", x.person(2, 5), 31);
        Check.is("windows", x.house(0, 2), 7);
        Check.is("nobody inside", x.house(0, 3), 0);
        Check.is("no house of before", x.house(1, 0), -1);
        Check.is("no stay of before", x.stay(2, 0), -1);
        Check.is("not begun", x.stay(0, 5), 0);
        Check.is("the wishes", x.plan(1), 12);
        Check.is("who went, and the fact", x.orders(0), 3);
        Check.is("the guests", x.kept(5, 70, 1), 3);
        Check.is("the image", x.back(1), 3);
        Check.is("its houses", x.count(0), 3);
        Check.is("its x", x.count(12), 4711);
        Twins.same("the same street again is a new one", y -> { Check.street(y, HOUSE); y.come(3, 0); Check.street(y, HOUSE); },
            y -> Check.street(y, HOUSE));
    }

    private static void allElseStays() {
        Doc.says("-2 - its FAULT (the TAPE is empty then, too), and all else stays.");
        String[] bad = {"", "x", "house free 1", "house free 1 0;", times(6, HOUSE) + HOUSE, "house free 5 5;stay 0 0 0 1 100"};
        for (String text : bad) {
            Twins.same("'" + text + "'", x -> { Twins.some(x); x.end(0); Check.street(x, text); }, x -> { Twins.some(x); x.end(0); });
            AfterTheLast y = new AfterTheLast();
            Twins.some(y);
            y.end(0);
            Check.is("a fault", Check.street(y, text) <= -3, true);
            Check.is("the tape is empty", y.count(13), 0);
            Check.is("the houses stay", y.count(0), 3);
        }
        AfterTheLast none = new AfterTheLast();
        Check.street(none, "house free 1 0;x");
        Check.is("without a street: no houses", none.count(0), 0);
        Check.is("without a street: no house 0", none.house(0, 0), -1);
    }

    /** What was only tried, or read ahead of a fault, is not in the next street. */
    private static void eachStreetBeginsAnew() {
        String street = "house last 2 1;stay 3 0 1 9 5";
        String rule = "come 1=1;hold now<50";
        Twins.Telling due = x -> { Check.rule(x, rule); Check.street(x, street); };
        String before = "house free 12 9;house free 12 9;stay 0 1 0 1 9;stay 1 0 0 95 9;stay 3 0 0 95 0";
        Twins.same("behind a street", x -> { Check.rule(x, rule); Check.street(x, before); Check.street(x, street); }, due);
        Twins.same("behind ahead", x -> { Check.rule(x, rule); Check.street(x, before); x.ahead(0, 60, 0); Check.street(x, street); }, due);
        Twins.same("behind bestRule", x -> { Check.rule(x, rule); Check.street(x, before); x.bestRule(); Check.street(x, street); }, due);
        Twins.same("behind evenings", x -> { Check.rule(x, rule); Check.street(x, before); x.evenings(0, 2, 0); Check.street(x, street); }, due);
        Twins.same("behind quarters", x -> { Check.rule(x, rule); Check.street(x, before); x.tick(0, 60); Check.street(x, street); }, due);
        Twins.same("behind a fault", x -> { Check.rule(x, rule); Check.street(x, before + ";x"); Check.street(x, street); }, due);
        Twins.same("quarters behind ahead", x -> { due.tell(x); x.tick(0, 5); x.ahead(0, 91, 1); x.tick(0, 50); },
            x -> { due.tell(x); x.tick(0, 55); });
        for (int bytes = 0; bytes <= before.length(); bytes++) {
            AfterTheLast x = new AfterTheLast();
            Check.street(x, before.substring(0, bytes));
            Check.is("behind '" + before.substring(0, bytes) + "'", Check.street(x, street), 1);
            Check.is("its stays", x.count(1), 1);
            Check.is("its law", x.house(0, 0), 0);
        }
    }
}

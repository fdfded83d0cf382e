/** The boundary cases of promises 1 (a new object), 2 (feed) and 3 (end). */
public final class TapeEdgeTest {
    private static final int BLANKS = 0x20202020;

    public static void main(String[] args) {
        aNewObject();
        the512thCall();
        eachByteHasItsPlace();
        numbersGoRoundToBytes();
        fullAndBeyond();
        whatARefusedFeedLeaves();
        ends();
        refusedEnds();
        Check.done();
    }

    private static void aNewObject() {
        Doc.says("No HOUSES, no RULES.");
        AfterTheLast x = new AfterTheLast();
        for (int i = 0; i < 6; i++) {
            Check.is("house " + i, x.house(i, 0), -1);
            Check.is("tick by " + i, x.tick(i, 1), -1);
            Check.is("ahead by " + i, x.ahead(i, 0, 0), -1);
            Check.is("evenings by " + i, x.evenings(i, 1, 0), -1);
            Check.is("most of " + i, x.most(i, 0), -1);
            Check.is("asks of " + i, x.asks(i), -1);
            Check.is("come to " + i, x.come(0, i), false);
        }
        Check.is("houses", x.count(0), 0);
        Check.is("rules", x.count(2), 0);
        Check.is("bestRule", x.bestRule(), -2);
    }

    private static void the512thCall() {
        Doc.says("An object is used for at most 512 calls after it has been made; what later calls answer is free.");
        AfterTheLast x = new AfterTheLast();
        x.feed(0x686f7573, 0x65206672, 0x65652031, 0x20392020, BLANKS);
        Check.is("street", x.street(), 1);
        for (int call = 3; call <= 511; call += 2) {
            Check.is("call " + call, x.come(11, 0), true);
            Check.is("call " + (call + 1), x.go(11, false), true);
        }
    }

    private static int fed(AfterTheLast x, int place, int sign) {
        int[] n = {BLANKS, BLANKS, BLANKS, BLANKS, BLANKS};
        int shift = 24 - 8 * (place % 4);
        n[place / 4] = n[place / 4] & ~(255 << shift) | sign << shift;
        return x.feed(n[0], n[1], n[2], n[3], n[4]);
    }

    private static void eachByteHasItsPlace() {
        Doc.says("Twenty bytes come behind the TAPE, of each number the highest first: how many it has");
        for (int place = 0; place < 20; place++) {
            AfterTheLast x = new AfterTheLast();
            Check.is("the first twenty", fed(x, place, 'x'), 20);
            Check.is("a fault at " + place, x.street(), Check.fault(place, 0));
            x.feed(BLANKS, BLANKS, BLANKS, BLANKS, BLANKS);
            Check.is("the second twenty", fed(x, place, 'x'), 40);
            Check.is("a fault at " + (20 + place), x.rule(), Check.fault(20 + place, 0));
        }
    }

    private static void numbersGoRoundToBytes() {
        // every byte but a blank is a fault at the first place of a text
        for (int sign = 0; sign < 256; sign++) {
            for (int place = 0; place < 4; place++) {
                AfterTheLast x = new AfterTheLast();
                fed(x, place, sign);
                Check.is("byte " + sign + " at " + place, x.street(), Check.fault(sign == ' ' ? 20 : place, 0));
            }
        }
        AfterTheLast y = new AfterTheLast();
        y.feed(Integer.MIN_VALUE, Integer.MAX_VALUE, -1, 0, 1);
        Check.is("the least number begins with byte 128", y.street(), Check.fault(0, 0));
    }

    private static void fullAndBeyond() {
        Doc.says("NONE, and none comes, if it would have more than 400.");
        AfterTheLast x = new AfterTheLast();
        for (int many = 20; many <= 400; many += 20) {
            Check.is("feed", x.feed(0, 0, 0, 0, 0), many);
            Check.is("bytes", x.count(13), many);
        }
        Check.is("feed to 420", x.feed(0, 0, 0, 0, 0), -1);
        Check.is("bytes", x.count(13), 400);
        for (int many = 399; many > 380; many--) {
            Check.is("end", x.end(many), many);
            Check.is("feed to " + (many + 20), x.feed(0, 0, 0, 0, 0), -1);
            Check.is("bytes", x.count(13), many);
        }
        Check.is("end", x.end(380), 380);
        Check.is("feed to 400", x.feed(0, 0, 0, 0, 0), 400);
        Check.is("end", x.end(379), 379);
        Check.is("feed to 399", x.feed(0, 0, 0, 0, 0), 399);
        Check.is("end", x.end(0), 0);
        Check.is("feed to 20", x.feed(0, 0, 0, 0, 0), 20);
    }

    private static void whatARefusedFeedLeaves() {
        AfterTheLast x = new AfterTheLast();
        for (int i = 0; i < 20; i++) {
            x.feed(BLANKS, BLANKS, BLANKS, BLANKS, BLANKS);
        }
        Check.is("refused", x.feed(-1, -1, -1, -1, -1), -1);
        Check.is("all blanks, up to the end", x.street(), Check.fault(400, 0));
        Check.is("then there is room again", x.feed(-1, -1, -1, -1, -1), 20);
        Twins.leave("feed to 401", y -> {
            Twins.some(y);
            for (int i = 0; i < 18; i++) {
                y.feed(BLANKS, BLANKS, BLANKS, BLANKS, BLANKS);
            }
            y.end(381);
        }, y -> y.feed(1, 2, 3, 4, 5), -1);
    }

    private static void ends() {
        Doc.says("The TAPE has its first n bytes alone: n");
        AfterTheLast x = new AfterTheLast();
        Check.tell(x, "house last 3 1;x");
        Check.is("all", x.end(16), 16);
        Check.is("all but one", x.end(15), 15);
        Check.is("all but two", x.end(14), 14);
        Check.is("bytes", x.count(13), 14);
        Check.is("what is left", x.street(), 1);
        Check.is("none of none", x.end(0), 0);
        x.feed(BLANKS, BLANKS, BLANKS, BLANKS, BLANKS);
        Check.is("none", x.end(0), 0);
        Check.is("bytes", x.count(13), 0);
        Check.is("an empty text", x.street(), Check.fault(0, 0));
        Check.tell(x, "house free 3 9");
        Check.is("cut", x.end(12), 12);
        x.feed(BLANKS, BLANKS, BLANKS, BLANKS, BLANKS);
        Check.is("what was cut is gone: new bytes stand there", x.street(), Check.fault(32, 0));
    }

    private static void refusedEnds() {
        Doc.says("NONE, and nothing happens, if it has not so many, or n is below 0.");
        int bytes = "house free 2 2;stay 4 0 1 2 3".length();
        Check.is("how many there are", bytes, 29);
        int[] none = {30, 49, 400, 401, Integer.MAX_VALUE, -1, -29, Integer.MIN_VALUE};
        for (int n : none) {
            Twins.leave("end " + n, Twins::some, x -> x.end(n), -1);
        }
        Twins.leave("end of all", Twins::some, x -> x.end(29), 29);
        Twins.leave("end 1 of an empty tape", x -> { }, x -> x.end(1), -1);
        Twins.leave("end -1 of an empty tape", x -> { }, x -> x.end(-1), -1);
        Twins.leave("end 0 of an empty tape", x -> { }, x -> x.end(0), 0);
    }
}

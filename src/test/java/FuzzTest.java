import java.util.Random;

/**
 * Runs of calls by chance (always the same ones), each answer compared with the model's. Arguments:
 * how many runs, and the first one's number.
 */
public final class FuzzTest {
    private final Random chance;
    private final AfterTheLast x = new AfterTheLast();
    private final Model m = new Model();
    private final StringBuilder told = new StringBuilder();

    private FuzzTest(long seed) {
        chance = new Random(seed);
    }

    public static void main(String[] args) {
        int runs = args.length > 0 ? Integer.parseInt(args[0]) : 1500;
        int first = args.length > 1 ? Integer.parseInt(args[1]) : 1;
        for (int run = first; run < first + runs && Check.failures() < 10; run++) {
            FuzzTest one = new FuzzTest(run);
            one.run(run);
        }
        Check.done();
    }

    private int pick(int below) {
        return chance.nextInt(below);
    }

    private boolean one(int of) {
        return pick(of) == 0;
    }

    /** Mostly low to high, now and then a little beside that, or far off. */
    private int about(int low, int high) {
        if (one(12)) return one(2) ? low - 1 : high + 1;
        if (one(150)) return one(2) ? Integer.MIN_VALUE : Integer.MAX_VALUE;
        return low + pick(Math.max(1, high - low + 1));
    }

    private void same(int run, String call, long got, long want) {
        told.append(call).append(" = ").append(want).append('\n');
        Check.is("run " + run + ": " + call, got, want);
        if (got != want) {
            System.out.println(told);
            throw new IllegalStateException("run " + run);
        }
    }

    private void run(int run) {
        int calls = 100 + pick(150);
        int style = pick(8);
        tellStreet(run, style);
        for (int i = pick(4); i > 0; i--) tellRule(run);
        for (int call = 0; call < calls; call++) step(run, style);
    }

    private void step(int run, int style) {
        int kind = pick(100);
        if (style == 1 && one(3)) kind = 40 + pick(12);
        if (style == 2 && one(3)) kind = 52 + pick(8);
        if (style == 3 && one(3)) kind = 60 + pick(8);
        if (style == 4 && one(3)) kind = 68 + pick(6);
        if (kind < 2) tellStreet(run, style);
        else if (kind < 6) tellRule(run);
        else if (kind < 8) tape(run);
        else if (kind < 20) byHand(run);
        else if (kind < 40) byRule(run);
        else if (kind < 52) sets(run);
        else if (kind < 60) plans(run);
        else if (kind < 68) rings(run);
        else if (kind < 74) went(run);
        else if (kind < 80) guests(run);
        else if (kind < 84) knocks(run);
        else if (kind < 88) images(run);
        else looks(run);
    }

    private void feed(int run, String text) {
        for (int at = 0; at < text.length(); at += 20) {
            int[] n = new int[5];
            for (int i = 0; i < 20; i++) n[i / 4] = n[i / 4] << 8 | (at + i < text.length() ? text.charAt(at + i) & 255 : 32);
            same(run, "feed of " + text, x.feed(n[0], n[1], n[2], n[3], n[4]), m.feed(n[0], n[1], n[2], n[3], n[4]));
        }
        int end = m.tape.size() - (20 - text.length() % 20) % 20;
        if (end >= 0 && !one(10)) same(run, "end " + end, x.end(end), m.end(end));
    }

    private void tellStreet(int run, int style) {
        String text = street(style);
        if (one(5)) text = spoilt(text);
        feed(run, text);
        same(run, "street " + text, x.street(), m.street());
    }

    private void tellRule(int run) {
        String text = rule();
        if (one(4)) text = spoilt(text);
        if (m.rules.size() == 6 && !one(3)) return;
        feed(run, text);
        same(run, "rule " + text, x.rule(), m.rule());
        if (m.tape.size() > 0) same(run, "end 0", x.end(0), m.end(0));
    }

    private String blanks() {
        return one(6) ? "  " : one(3) ? "" : " ";
    }

    private String street(int style) {
        StringBuilder b = new StringBuilder();
        int houses = one(10) ? 5 + pick(3) : 1 + pick(4);
        int stays = one(8) ? 14 + pick(6) : pick(14);
        int width = one(3) ? 95 : 3 + pick(30);
        for (int h = 0; h < houses; h++) {
            if (h > 0) b.append(';').append(one(4) ? " " : "");
            String law = style == 3 ? new String[] {"last", "first", "last"}[pick(3)] : new String[] {"last", "first", "free"}[pick(3)];
            int room = one(4) ? about(1, 12) : 1 + pick(5);
            b.append("house ").append(law).append(blanks()).append(Math.max(0, room)).append(' ').append(pick(one(3) ? 10 : 3));
        }
        for (int s = 0; s < stays; s++) {
            int from = pick(width);
            int till = Math.min(95, from + 1 + pick(width));
            int house = style == 1 ? 0 : pick(houses);
            b.append(blanks()).append(";stay ").append(pick(12)).append(' ').append(house).append(' ').append(from).append(' ')
                .append(one(200) ? from : till).append(' ').append(pick(one(2) ? 100 : 4));
        }
        return cut(b.toString());
    }

    private String cut(String text) {
        return text.length() > 400 ? text.substring(0, 400) : text;
    }

    private String rule() {
        StringBuilder b = new StringBuilder();
        int clauses = one(12) ? 11 + pick(4) : 1 + pick(3);
        for (int c = 0; c < clauses; c++) {
            if (c > 0) b.append(";");
            b.append(blanks()).append(new String[] {"come", "hold", "window"}[pick(3)]).append(' ');
            test(b, one(30) ? 13 : pick(3), clauses > 4);
        }
        return cut(b.toString());
    }

    private void test(StringBuilder b, int deep, boolean brief) {
        int facts = brief ? 1 : one(10) ? 1 + pick(20) : 1 + pick(3);
        for (int f = 0; f < facts; f++) {
            if (f > 0) b.append(one(2) ? " or " : " and ");
            fact(b, deep, brief);
        }
    }

    private void fact(StringBuilder b, int deep, boolean brief) {
        if (deep > 0 && !one(8)) {
            if (one(2)) {
                b.append("not ");
                fact(b, deep - 1, brief);
            } else {
                b.append('[').append(blanks());
                test(b, deep - 1, true);
                b.append(blanks()).append(']');
            }
            return;
        }
        sum(b);
        b.append(blanks()).append(new String[] {"<", "<=", "=", ">=", ">"}[pick(5)]).append(blanks());
        sum(b);
    }

    private void sum(StringBuilder b) {
        value(b);
        for (int i = one(2) ? 0 : pick(4); i > 0; i--) {
            b.append(blanks()).append("+-*/".charAt(pick(4))).append(blanks());
            value(b);
        }
    }

    private void value(StringBuilder b) {
        if (one(3)) {
            b.append(one(40) ? 123456 : one(8) ? 90000 + pick(10000) : pick(one(2) ? 4 : 96));
        } else {
            b.append(new String[] {"now", "person", "house", "inside", "after", "room", "windows", "worth", "late", "long"}[pick(10)]);
        }
    }

    private String spoilt(String text) {
        StringBuilder b = new StringBuilder(text);
        String signs = "abstor;[]<>=+-*/ 0123459A\u0000\u00ff";
        for (int i = 1 + pick(2); i > 0 && b.length() > 0; i--) {
            int at = pick(b.length());
            char sign = signs.charAt(pick(signs.length()));
            if (one(3)) b.deleteCharAt(at);
            else if (one(2)) b.setCharAt(at, sign);
            else if (one(4)) b.setLength(at);
            else b.insert(at, sign);
        }
        return cut(b.toString());
    }

    private void tape(int run) {
        if (one(2)) {
            int n = one(3) ? about(0, 400) : about(0, m.tape.size());
            same(run, "end " + n, x.end(n), m.end(n));
        } else if (one(2)) {
            int a = chance.nextInt();
            int b = chance.nextInt();
            same(run, "feed", x.feed(a, b, 0, -1, 7), m.feed(a, b, 0, -1, 7));
        } else if (m.tape.size() > 0 && one(2)) {
            same(run, "street", x.street(), m.street());
        } else {
            same(run, "rule", x.rule(), m.rule());
        }
        if (m.tape.size() > 300) same(run, "end 0", x.end(0), m.end(0));
    }

    private void byHand(int run) {
        int p = about(0, 11);
        int h = about(0, Math.max(0, m.s.houses.size() - 1));
        if (one(2)) {
            same(run, "come " + p + " " + h, x.come(p, h) ? 1 : 0, m.come(p, h));
        } else {
            boolean w = one(3);
            same(run, "go " + p + " " + w, x.go(p, w) ? 1 : 0, m.go(p, w));
        }
    }

    private void byRule(int run) {
        int r = about(0, Math.max(0, m.rules.size() - 1));
        int what = about(0, 3);
        switch (pick(8)) {
            case 0: case 1: case 2: {
                int n = one(4) ? about(1, 96) : 1 + pick(12);
                same(run, "tick " + r + " " + n, x.tick(r, n), m.tick(r, n));
                break;
            }
            case 3: case 4: {
                int n = one(6) ? about(0, 96) : about(0, 96 - m.s.now);
                same(run, "ahead " + r + " " + n + " " + what, x.ahead(r, n, what), m.ahead(r, n, what));
                break;
            }
            case 5:
                same(run, "bestRule", x.bestRule(), m.bestRule());
                break;
            case 6: {
                int n = one(4) ? about(1, 20) : 1 + pick(3);
                same(run, "evenings " + r + " " + n + " " + what, x.evenings(r, n, what), m.evenings(r, n, what));
                break;
            }
            default: {
                int n = one(3) ? chance.nextInt() : pick(1000);
                same(run, "seed " + n, x.seed(n), m.seed(n));
            }
        }
    }

    private int set() {
        int stays = m.s.stays.size();
        if (one(15)) return chance.nextInt();
        if (one(20)) return 1 << stays;
        int all = (1 << stays) - 1;
        return one(3) ? all & chance.nextInt() & chance.nextInt() : all & chance.nextInt();
    }

    private void sets(int run) {
        int law = one(2) ? 0 : about(0, 2);
        int what = about(0, 1);
        int top = Math.max(0, m.s.stays.size() - 1);
        switch (pick(4)) {
            case 0: {
                int a = about(0, top);
                int b = about(0, top);
                same(run, "cross " + a + " " + b + " " + law, x.cross(a, b, law), m.cross(a, b, law));
                break;
            }
            case 1: {
                int s = set();
                same(run, "fits " + s + " " + law + " " + what, x.fits(s, law, what), m.fits(s, law, what));
                break;
            }
            case 2: {
                int h = about(0, Math.max(0, m.s.houses.size() - 1));
                int many = 0;
                for (Model.Stay t : m.s.stays) if (t.house == h) many++;
                if (many < 11 || one(10)) same(run, "most " + h + " " + what, x.most(h, what), m.most(h, what));
                break;
            }
            default: {
                int s = set();
                same(run, "houses " + s + " " + law + " " + what, x.houses(s, law, what), m.houses(s, law, what));
            }
        }
    }

    private void plans(int run) {
        if (one(3)) {
            int what = about(0, 6);
            if (m.s.wishes.size() < 5 || one(4)) same(run, "plan " + what, x.plan(what), m.plan(what));
        } else if (one(12)) {
            same(run, "wishes NONE", x.wishes(-1, 0, 0, 0, 0), m.wishes(-1, 0, 0, 0, 0));
        } else {
            int p = one(3) ? about(0, 11) : pick(4);
            int h = one(3) ? about(0, 5) : pick(2);
            int f = one(6) ? about(0, 95) : pick(12);
            int d = one(6) ? about(1, 95) : 1 + pick(8);
            int t = one(6) ? about(0, 95) : f + d + pick(one(8) ? 14 : 6);
            same(run, "wishes " + p + " " + h + " " + f + " " + t + " " + d, x.wishes(p, h, f, t, d), m.wishes(p, h, f, t, d));
        }
    }

    private void rings(int run) {
        int p = about(0, 11);
        switch (pick(5)) {
            case 0: case 1: {
                int o = about(-1, 11);
                same(run, "waits " + p + " " + o, x.waits(p, o), m.waits(p, o));
                byHand(run);
                break;
            }
            case 2: {
                int what = about(0, 3);
                same(run, "rings " + what, x.rings(what), m.rings(what));
                break;
            }
            case 3: {
                int n = about(0, 99);
                same(run, "worth " + p + " " + n, x.worth(p, n), m.worth(p, n));
                break;
            }
            default: {
                int h = about(0, Math.max(0, m.s.houses.size() - 1));
                same(run, "asks " + h, x.asks(h), m.asks(h));
            }
        }
    }

    private void went(int run) {
        switch (pick(4)) {
            case 0: case 1: {
                int p = one(25) ? -1 : one(20) ? about(0, 11) : pick(12);
                same(run, "went " + p, x.went(p), m.went(p));
                break;
            }
            case 2: {
                int a = one(15) ? -1 : pick(12);
                int b = about(0, 11);
                same(run, "before " + a + " " + b, x.before(a, b), m.before(a, b));
                break;
            }
            default: {
                int k = about(-1, m.s.went.size());
                if (m.s.went.size() < 7 || one(3)) same(run, "orders " + k, x.orders(k), m.orders(k));
            }
        }
    }

    private void guests(int run) {
        if (one(3)) {
            int g = about(0, 95);
            int t = about(0, 95);
            int what = about(0, 1);
            same(run, "kept " + g + " " + t + " " + what, x.kept(g, t, what), m.kept(g, t, what));
        } else {
            int c = one(20) ? -1 : about(0, 95);
            int g = one(5) ? about(0, 95) : Math.min(95, Math.max(0, c)) + pick(30);
            same(run, "guest " + c + " " + g, x.guest(c, g), m.guest(c, g));
        }
    }

    private void knocks(int run) {
        int c = about(0, 16);
        int n = one(3) ? about(1, 95) : 1 + pick(12);
        int w = about(0, 99);
        int e = about(0, 95);
        int t = one(4) ? about(0, 95) : about(0, Math.max(0, Math.min(95, e)));
        int what = about(0, 1);
        same(run, "knocks " + c + " " + n + " " + w + " " + e + " " + t + " " + what, x.knocks(c, n, w, e, t, what), m.knocks(c, n, w, e, t, what));
    }

    private void images(int run) {
        int k = about(0, 3);
        if (one(2)) same(run, "image " + k, x.image(k), m.image(k));
        else same(run, "back " + k, x.back(k), m.back(k));
    }

    private void looks(int run) {
        if (one(4)) {
            int w = about(0, 13);
            same(run, "count " + w, x.count(w), m.count(w));
        } else if (one(4)) {
            for (int w = 0; w < 14; w++) same(run, "count " + w, x.count(w), m.count(w));
            for (int p = 0; p < 12; p++) for (int w = 0; w < 6; w++) same(run, "person " + p + " " + w, x.person(p, w), m.person(p, w));
        } else {
            int h = about(0, 5);
            int s = about(0, 17);
            int p = about(0, 11);
            int w = about(0, 5);
            same(run, "house " + h + " " + w, x.house(h, w), m.house(h, w));
            same(run, "stay " + s + " " + w, x.stay(s, w), m.stay(s, w));
            same(run, "person " + p + " " + w, x.person(p, w), m.person(p, w));
        }
    }
}

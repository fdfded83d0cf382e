import java.util.ArrayList;
import java.util.Arrays;
import java.util.List;

/**
 * The document said again in the plainest way, by trying everything: what the program answers is
 * compared with what this answers. It shares no code and no way of reckoning with the program.
 */
final class Model {
    interface Num { long of(Now at); }
    interface Fact { boolean of(Now at); }

    /** What a TEST is asked of. */
    static final class Now {
        State state;
        int person;
        int stay;
        Now(State state, int person, int stay) { this.state = state; this.person = person; this.stay = stay; }
    }

    static final class Fault extends RuntimeException {
        final int place;
        final int kind;
        Fault(int place, int kind) { super(null, null, false, false); this.place = place; this.kind = kind; }
    }

    static final class House {
        int law, room, windows;
        List<Integer> inside = new ArrayList<>();
        House copy() {
            House h = new House();
            h.law = law; h.room = room; h.windows = windows; h.inside.addAll(inside);
            return h;
        }
    }

    static final class Stay {
        int person, house, from, till, worth;
        boolean begun;
        Stay copy() {
            Stay s = new Stay();
            s.person = person; s.house = house; s.from = from; s.till = till; s.worth = worth; s.begun = begun;
            return s;
        }
    }

    static final class State {
        List<House> houses = new ArrayList<>();
        List<Stay> stays = new ArrayList<>();
        int now, late;
        int[] stayOf = new int[12];
        int[] waits = new int[12];
        int[] going = new int[12];
        List<int[]> wishes = new ArrayList<>();
        List<Integer> went = new ArrayList<>();
        List<int[]> facts = new ArrayList<>();
        List<int[]> guests = new ArrayList<>();
        long x;

        State() { Arrays.fill(stayOf, -1); Arrays.fill(waits, -1); }

        State copy() {
            State s = new State();
            for (House h : houses) s.houses.add(h.copy());
            for (Stay t : stays) s.stays.add(t.copy());
            s.now = now; s.late = late; s.x = x;
            s.stayOf = stayOf.clone(); s.waits = waits.clone(); s.going = going.clone();
            s.wishes.addAll(wishes); s.went.addAll(went); s.facts.addAll(facts); s.guests.addAll(guests);
            return s;
        }

        int houseOf(int person) {
            for (int h = 0; h < houses.size(); h++) if (houses.get(h).inside.contains(person)) return h;
            return -1;
        }

        int after(int person, int house) {
            List<Integer> in = houses.get(house).inside;
            int at = in.indexOf(person);
            return at < 0 ? 0 : in.size() - 1 - at;
        }

        boolean may(int person) {
            int h = houseOf(person);
            if (h < 0) return false;
            House house = houses.get(h);
            List<Integer> in = house.inside;
            if (house.law == 0) return in.get(in.size() - 1) == person;
            if (house.law == 1) return in.get(0) == person;
            return true;
        }

        void enter(int person, int house, int stay) {
            houses.get(house).inside.add(person);
            stayOf[person] = stay;
            if (stay >= 0) stays.get(stay).begun = true;
            for (int p = 0; p < 12; p++) {
                int q = waits[p];
                if (q >= 0 && (p == person || q == person) && houseOf(p) >= 0 && houseOf(p) == houseOf(q)) waits[p] = -1;
            }
        }

        void leave(int person) {
            houses.get(houseOf(person)).inside.remove((Integer) person);
            stayOf[person] = -1;
        }

        int served() { int n = 0; for (Stay s : stays) if (s.begun) n++; return n; }
        int missed() { int n = 0; for (Stay s : stays) if (!s.begun && s.till <= now) n++; return n; }
        int inside() { int n = 0; for (House h : houses) n += h.inside.size(); return n; }
        int windows() { int n = 0; for (House h : houses) n += h.windows; return n; }
        boolean due(int person) { return stayOf[person] >= 0 && stays.get(stayOf[person]).till <= now; }
    }

    static final class Rule {
        List<Fact> come = new ArrayList<>();
        List<Fact> hold = new ArrayList<>();
        List<Fact> window = new ArrayList<>();
    }

    static boolean some(List<Fact> tests, State s, int person, int stay) {
        for (Fact f : tests) if (f.of(new Now(s, person, stay))) return true;
        return false;
    }

    static void quarter(State s, Rule r) {
        boolean again = true;
        while (again) {
            again = false;
            for (int p = 0; p < 12; p++) {
                if (s.due(p) && !some(r.hold, s, p, s.stayOf[p]) && s.may(p)) {
                    s.leave(p);
                    again = true;
                    break;
                }
            }
        }
        for (int p = 0; p < 12; p++) {
            if (s.due(p) && some(r.window, s, p, s.stayOf[p])) {
                House h = s.houses.get(s.houseOf(p));
                if (h.windows > 0) { s.leave(p); h.windows--; }
            }
        }
        for (int p = 0; p < 12; p++) {
            if (s.houseOf(p) >= 0) continue;
            for (int i = 0; i < s.stays.size(); i++) {
                Stay t = s.stays.get(i);
                if (t.person != p || t.begun || t.from > s.now || t.till <= s.now) continue;
                House h = s.houses.get(t.house);
                if (h.inside.size() < h.room && (r.come.isEmpty() || some(r.come, s, p, i))) s.enter(p, t.house, i);
                break;
            }
        }
        for (int p = 0; p < 12; p++) if (s.due(p)) s.late++;
        s.now++;
    }

    // ---- texts: a list of tokens, then one function a line of the grammar ----

    static final class Text {
        final int[] bytes;
        int at = 0;
        int parts = 0;
        Text(int[] bytes) { this.bytes = bytes; }

        int begin() {
            while (at < bytes.length && bytes[at] == 32) at++;
            return at;
        }

        /** The token that begins here: a word, digits, a sign, or "" at the end. */
        String token() {
            begin();
            if (at >= bytes.length) return "";
            int end = at;
            if (bytes[at] >= 'a' && bytes[at] <= 'z') {
                while (end < bytes.length && bytes[end] >= 'a' && bytes[end] <= 'z') end++;
            } else if (bytes[at] >= '0' && bytes[at] <= '9') {
                while (end < bytes.length && bytes[end] >= '0' && bytes[end] <= '9') end++;
            } else {
                end++;
                if ((bytes[at] == '<' || bytes[at] == '>') && end < bytes.length && bytes[end] == '=') end++;
            }
            StringBuilder b = new StringBuilder();
            for (int i = at; i < end; i++) b.append((char) bytes[i]);
            return b.toString();
        }

        boolean eat(String token) {
            if (!token().equals(token)) return false;
            at = begin() + token.length();
            return true;
        }

        Fault fault(int kind) { return new Fault(begin(), kind); }

        int number(int low, int high) {
            String t = token();
            if (t.isEmpty() || !Character.isDigit(t.charAt(0))) throw fault(0);
            if (t.length() > 5) throw fault(1);
            int n = Integer.parseInt(t);
            if (n < low || n > high) throw fault(1);
            eat(t);
            return n;
        }
    }

    static State readStreet(int[] bytes) {
        Text in = new Text(bytes);
        State s = new State();
        int clauses = 0;
        do {
            String t = in.token();
            if (t.equals("house")) {
                if (clauses == 24 || s.houses.size() == 6) throw in.fault(4);
                in.eat(t);
                House h = new House();
                h.law = Arrays.asList("last", "first", "free").indexOf(in.token());
                if (h.law < 0) throw in.fault(0);
                in.eat(in.token());
                h.room = in.number(1, 12);
                h.windows = in.number(0, 9);
                s.houses.add(h);
            } else if (t.equals("stay")) {
                if (clauses == 24 || s.stays.size() == 18) throw in.fault(4);
                in.eat(t);
                Stay y = new Stay();
                y.person = in.number(0, 11);
                y.house = in.number(0, s.houses.size() - 1);
                y.from = in.number(0, 95);
                y.till = in.number(y.from + 1, 95);
                y.worth = in.number(0, 99);
                s.stays.add(y);
            } else {
                throw in.fault(0);
            }
            clauses++;
        } while (in.eat(";"));
        if (!in.token().isEmpty()) throw in.fault(0);
        return s;
    }

    static Rule readRule(int[] bytes) {
        Text in = new Text(bytes);
        Rule r = new Rule();
        int clauses = 0;
        do {
            String t = in.token();
            List<Fact> to = t.equals("come") ? r.come : t.equals("hold") ? r.hold : t.equals("window") ? r.window : null;
            if (to == null) throw in.fault(0);
            if (clauses == 12) throw in.fault(4);
            in.eat(t);
            to.add(test(in, 0));
            clauses++;
        } while (in.eat(";"));
        if (!in.token().isEmpty()) throw in.fault(0);
        return r;
    }

    static Fact test(Text in, int deep) {
        Fact f = part(in, deep);
        while (in.eat("or")) {
            Fact a = f;
            Fact b = part(in, deep);
            f = at -> a.of(at) | b.of(at);
        }
        return f;
    }

    static Fact part(Text in, int deep) {
        Fact f = fact(in, deep);
        while (in.eat("and")) {
            Fact a = f;
            Fact b = fact(in, deep);
            f = at -> a.of(at) & b.of(at);
        }
        return f;
    }

    static Fact fact(Text in, int deep) {
        String t = in.token();
        if (t.equals("not") || t.equals("[")) {
            if (deep == 10) throw in.fault(2);
            in.eat(t);
            if (t.equals("not")) {
                Fact f = fact(in, deep + 1);
                return at -> !f.of(at);
            }
            Fact f = test(in, deep + 1);
            if (!in.eat("]")) throw in.fault(0);
            return f;
        }
        Num a = sum(in);
        String sign = in.token();
        if (!Arrays.asList("<", "<=", "=", ">=", ">").contains(sign)) throw in.fault(0);
        if (++in.parts > 60) throw in.fault(3);
        in.eat(sign);
        Num b = sum(in);
        return at -> {
            int c = Long.compare(a.of(at), b.of(at));
            return sign.equals("<") ? c < 0 : sign.equals("<=") ? c <= 0 : sign.equals("=") ? c == 0
                : sign.equals(">=") ? c >= 0 : c > 0;
        };
    }

    static Num sum(Text in) {
        Num n = term(in);
        while (true) {
            Num a = n;
            if (in.eat("+")) { Num b = term(in); n = at -> a.of(at) + b.of(at); }
            else if (in.eat("-")) { Num b = term(in); n = at -> a.of(at) - b.of(at); }
            else return n;
        }
    }

    static Num term(Text in) {
        Num n = value(in);
        while (true) {
            Num a = n;
            if (in.eat("*")) { Num b = value(in); n = at -> a.of(at) * b.of(at); }
            else if (in.eat("/")) { Num b = value(in); n = at -> b.of(at) == 0 ? 0 : a.of(at) / b.of(at); }
            else return n;
        }
    }

    static Num value(Text in) {
        String t = in.token();
        if (!t.isEmpty() && Character.isDigit(t.charAt(0))) {
            if (t.length() > 5) throw in.fault(1);
            if (++in.parts > 60) throw in.fault(3);
            in.eat(t);
            long n = Long.parseLong(t);
            return at -> n;
        }
        Num n = word(t);
        if (n == null) throw in.fault(0);
        if (++in.parts > 60) throw in.fault(3);
        in.eat(t);
        return n;
    }

    static Num word(String t) {
        switch (t) {
            case "now": return at -> at.state.now;
            case "person": return at -> at.person;
            case "house": return at -> stay(at).house;
            case "inside": return at -> house(at).inside.size();
            case "after": return at -> at.state.after(at.person, stay(at).house);
            case "room": return at -> house(at).room - house(at).inside.size();
            case "windows": return at -> house(at).windows;
            case "worth": return at -> stay(at).worth;
            case "late": return at -> Math.max(0, at.state.now - stay(at).till);
            case "long": return at -> Math.max(0, stay(at).till - at.state.now);
            default: return null;
        }
    }

    static Stay stay(Now at) { return at.state.stays.get(at.stay); }
    static House house(Now at) { return at.state.houses.get(stay(at).house); }

    // ---- the face ----

    List<Integer> tape = new ArrayList<>();
    List<Rule> rules = new ArrayList<>();
    State s = new State();
    State[] images = new State[4];

    static boolean in(int n, int low, int high) { return n >= low && n <= high; }

    int feed(int a, int b, int c, int d, int e) {
        if (tape.size() + 20 > 400) return -1;
        for (int n : new int[] {a, b, c, d, e})
            for (int i = 3; i >= 0; i--) tape.add((n >>> (8 * i)) & 255);
        return tape.size();
    }

    int end(int n) {
        if (n < 0 || n > tape.size()) return -1;
        tape = new ArrayList<>(tape.subList(0, n));
        return n;
    }

    int[] taken() {
        int[] b = new int[tape.size()];
        for (int i = 0; i < b.length; i++) b[i] = tape.get(i);
        tape.clear();
        return b;
    }

    int street() {
        try {
            State n = readStreet(taken());
            n.going = s.going; n.wishes = s.wishes; n.went = s.went; n.facts = s.facts; n.guests = s.guests; n.x = s.x;
            s = n;
            return s.houses.size();
        } catch (Fault f) {
            return -2 - (1 + 8 * f.place + f.kind);
        }
    }

    int rule() {
        if (rules.size() == 6) return -1;
        try {
            rules.add(readRule(taken()));
            return rules.size() - 1;
        } catch (Fault f) {
            return -2 - (1 + 8 * f.place + f.kind);
        }
    }

    int house(int house, int what) {
        if (!in(house, 0, s.houses.size() - 1)) return -1;
        House h = s.houses.get(house);
        int n = h.inside.size();
        switch (what) {
            case 0: return h.law;
            case 1: return h.room;
            case 2: return h.windows;
            case 3: return n;
            case 4: return n == 0 ? -1 : h.inside.get(n - 1);
            case 5: return n == 0 ? -1 : h.inside.get(0);
            default: return -1;
        }
    }

    int stay(int stay, int what) {
        if (!in(stay, 0, s.stays.size() - 1) || !in(what, 0, 5)) return -1;
        Stay t = s.stays.get(stay);
        return new int[] {t.person, t.house, t.from, t.till, t.worth, t.begun ? 1 : 0}[what];
    }

    int person(int p, int what) {
        if (!in(p, 0, 11) || !in(what, 0, 5)) return -2;
        int h = s.houseOf(p);
        return new int[] {h, s.stayOf[p], s.may(p) ? 1 : 0, h < 0 ? 0 : s.after(p, h), s.waits[p], s.going[p]}[what];
    }

    int come(int p, int house) {
        if (!in(p, 0, 11) || !in(house, 0, s.houses.size() - 1) || s.houseOf(p) >= 0) return 0;
        if (s.houses.get(house).inside.size() >= s.houses.get(house).room) return 0;
        s.enter(p, house, -1);
        return 1;
    }

    int go(int p, boolean window) {
        if (!in(p, 0, 11) || s.houseOf(p) < 0) return 0;
        House h = s.houses.get(s.houseOf(p));
        if (window) {
            if (h.windows == 0) return 0;
            h.windows--;
        } else if (!s.may(p)) {
            return 0;
        }
        s.leave(p);
        return 1;
    }

    boolean isRule(int r) { return in(r, 0, rules.size() - 1); }

    int tick(int r, int n) {
        if (!isRule(r) || !in(n, 1, 96) || s.now + n > 96) return -1;
        for (int i = 0; i < n; i++) quarter(s, rules.get(r));
        return s.now;
    }

    State after(int r, int n) {
        State t = s.copy();
        for (int i = 0; i < n; i++) quarter(t, rules.get(r));
        return t;
    }

    int ahead(int r, int n, int what) {
        if (!isRule(r) || !in(n, 0, 96) || s.now + n > 96 || !in(what, 0, 3)) return -1;
        State t = after(r, n);
        return new int[] {t.inside(), t.late - s.late, t.served(), t.windows()}[what];
    }

    int bestRule() {
        int best = -2;
        for (int r = 0; r < rules.size(); r++) {
            State t = after(r, 96 - s.now);
            State b = best < 0 ? null : after(best, 96 - s.now);
            if (b == null || t.late < b.late || (t.late == b.late && t.served() > b.served())) best = r;
        }
        return best;
    }

    static boolean crossing(int f, int t, int g, int u, int law) {
        if (law == 0) return (f < g && g < t && t < u) || (g < f && f < u && u < t);
        if (law == 1) return (f < g && u < t) || (g < f && t < u);
        return false;
    }

    boolean crossing(int a, int b, int law) {
        Stay x = s.stays.get(a);
        Stay y = s.stays.get(b);
        return crossing(x.from, x.till, y.from, y.till, law);
    }

    int cross(int a, int b, int law) {
        int n = s.stays.size() - 1;
        if (!in(a, 0, n) || !in(b, 0, n) || a == b || !in(law, 0, 2)) return -1;
        return crossing(a, b, law) ? 1 : 0;
    }

    boolean isSet(int set) {
        if (set < 0) return false;
        for (int i = 0; i < 31; i++) if ((set & (1 << i)) != 0 && i >= s.stays.size()) return false;
        return true;
    }

    List<Integer> list(int set) {
        List<Integer> l = new ArrayList<>();
        for (int i = 0; i < 31; i++) if ((set & (1 << i)) != 0) l.add(i);
        return l;
    }

    int crossings(int set, int law) {
        int n = 0;
        for (int a : list(set)) for (int b : list(set)) if (a < b && crossing(a, b, law)) n++;
        return n;
    }

    int fits(int set, int law, int what) {
        if (!isSet(set) || !in(law, 0, 2) || !in(what, 0, 1)) return -1;
        int n = crossings(set, law);
        return what == 1 ? n : n == 0 ? 1 : 0;
    }

    int most(int house, int what) {
        if (!in(house, 0, s.houses.size() - 1) || !in(what, 0, 1)) return -1;
        int own = 0;
        for (int i = 0; i < s.stays.size(); i++) if (s.stays.get(i).house == house) own |= 1 << i;
        int best = -1;
        int set = 0;
        for (int c = 0; c <= own; c++) {
            if ((c & ~own) != 0) continue;
            int worth = 0;
            for (int i = 0; i < s.stays.size(); i++) if ((c & (1 << i)) != 0) worth += s.stays.get(i).worth;
            if (worth > best && crossings(c, 0) == 0 && roomFor(c, s.houses.get(house).room)) { best = worth; set = c; }
        }
        return what == 0 ? best : set;
    }

    boolean roomFor(int set, int room) {
        for (int q = 0; q < 96; q++) {
            int n = 0;
            for (int i : list(set)) if (s.stays.get(i).from <= q && q < s.stays.get(i).till) n++;
            if (n > room) return false;
        }
        return true;
    }

    int houses(int set, int law, int what) {
        if (!isSet(set) || !in(law, 0, 2) || !in(what, 0, 1) || !in(Integer.bitCount(set), 1, 12)) return -1;
        List<Integer> l = list(set);
        if (what == 0) return fewest(l, 0, new ArrayList<>(), law, l.size());
        int most = 0;
        for (int c = 0; c <= set; c++) {
            if ((c & ~set) != 0) continue;
            int n = Integer.bitCount(c);
            if (n > most && crossings(c, law) == n * (n - 1) / 2) most = n;
        }
        return most;
    }

    int fewest(List<Integer> l, int at, List<List<Integer>> parts, int law, int best) {
        if (at == l.size()) return Math.min(best, parts.size());
        if (parts.size() >= best) return best;
        int stay = l.get(at);
        for (int i = 0; i < parts.size(); i++) {
            boolean ok = true;
            for (int o : parts.get(i)) if (crossing(o, stay, law)) ok = false;
            if (ok) {
                parts.get(i).add(stay);
                best = fewest(l, at + 1, parts, law, best);
                parts.get(i).remove((Integer) stay);
            }
        }
        parts.add(new ArrayList<>(List.of(stay)));
        best = fewest(l, at + 1, parts, law, best);
        parts.remove(parts.size() - 1);
        return best;
    }

    int wishes(int p, int h, int f, int t, int d) {
        if (p == -1) { s.wishes = new ArrayList<>(); return 0; }
        if (s.wishes.size() == 6 || !in(p, 0, 11) || !in(h, 0, 5) || !in(f, 0, 95) || !in(t, 0, 95) || t <= f) return -2;
        if (d < 1 || !in(t - f, d, Math.min(200, d) + 11)) return -2;
        s.wishes = new ArrayList<>(s.wishes);
        s.wishes.add(new int[] {p, h, f, t, d});
        return s.wishes.size();
    }

    int plans;
    int[] firstPlan;

    void plans(int at, int[] begins) {
        if (at == s.wishes.size()) {
            if (firstPlan == null) firstPlan = begins.clone();
            plans++;
            return;
        }
        int[] w = s.wishes.get(at);
        for (int b = w[2]; b + w[4] <= w[3]; b++) {
            boolean ok = true;
            for (int o = 0; o < at; o++) {
                int[] v = s.wishes.get(o);
                int e = b + w[4];
                int f = begins[o] + v[4];
                if (v[1] == w[1] && crossing(b, e, begins[o], f, 0)) ok = false;
                if (v[0] == w[0] && !(e <= begins[o] || f <= b)) ok = false;
            }
            if (!ok) continue;
            begins[at] = b;
            plans(at + 1, begins);
        }
    }

    int plan(int what) {
        if (!in(what, 0, 6) || (what < 6 && what >= s.wishes.size())) return -1;
        plans = 0;
        firstPlan = null;
        plans(0, new int[6]);
        if (what == 6) return Math.min(1000000, plans);
        return firstPlan == null ? -2 : firstPlan[what];
    }

    int waits(int p, int o) {
        if (!in(p, 0, 11) || !in(o, -1, 11) || p == o) return -2;
        int was = s.waits[p];
        s.waits[p] = o;
        return was;
    }

    static boolean[][] needs(State s) {
        boolean[][] n = new boolean[12][12];
        for (House h : s.houses) {
            for (int i = 0; i < h.inside.size(); i++) {
                for (int j = 0; j < h.inside.size(); j++) {
                    if ((h.law == 0 && j > i) || (h.law == 1 && j < i)) n[h.inside.get(i)][h.inside.get(j)] = true;
                }
            }
        }
        for (int p = 0; p < 12; p++) {
            if (s.houseOf(p) >= 0 && s.waits[p] >= 0 && s.houseOf(s.waits[p]) != s.houseOf(p)) n[p][s.waits[p]] = true;
        }
        return n;
    }

    /** In how many steps each can come to each (1 and above), 99: not at all. */
    static int[][] steps(boolean[][] n) {
        int[][] d = new int[12][12];
        for (int i = 0; i < 12; i++) for (int j = 0; j < 12; j++) d[i][j] = n[i][j] ? 1 : 99;
        for (int k = 0; k < 12; k++)
            for (int i = 0; i < 12; i++)
                for (int j = 0; j < 12; j++) d[i][j] = Math.min(d[i][j], Math.min(99, d[i][k] + d[k][j]));
        return d;
    }

    static int shortest(State s) {
        int[][] d = steps(needs(s));
        int best = 99;
        for (int i = 0; i < 12; i++) best = Math.min(best, d[i][i]);
        return best == 99 ? 0 : best;
    }

    int rings(int what) {
        if (!in(what, 0, 3)) return -1;
        if (what == 0) return shortest(s);
        if (what == 1) {
            int[][] d = steps(needs(s));
            int set = 0;
            for (int i = 0; i < 12; i++) for (int j = 0; j < 12; j++) if (d[j][j] < 99 && (i == j || d[i][j] < 99)) set |= 1 << i;
            return set;
        }
        for (int many = 0; many <= 12; many++) {
            for (int set = 0; set < 4096; set++) {
                if (Integer.bitCount(set) != many) continue;
                State t = s.copy();
                for (int p : list(set)) {
                    if (t.houseOf(p) >= 0) t.leave(p);
                    t.waits[p] = -1;
                }
                if (shortest(t) == 0) return what == 2 ? set : many;
            }
        }
        return -99;
    }

    int worth(int p, int n) {
        if (!in(p, 0, 11) || !in(n, 0, 99)) return -1;
        int was = s.going[p];
        s.going = s.going.clone();
        s.going[p] = n;
        return was;
    }

    int asks(int house) {
        if (!in(house, 0, s.houses.size() - 1)) return -1;
        House h = s.houses.get(house);
        if (h.law != 0) return 0;
        int n = 0;
        for (int i = 0; i < h.inside.size() - 1; i++) n += s.going[h.inside.get(i)];
        return n;
    }

    int went(int p) {
        if (p == -1) { s.went = new ArrayList<>(); return 0; }
        if (!in(p, 0, 11) || s.went.contains(p) || s.went.size() == 8) return -2;
        s.went = new ArrayList<>(s.went);
        s.went.add(p);
        return s.went.size();
    }

    int before(int a, int b) {
        if (a == -1) { s.facts = new ArrayList<>(); return 0; }
        if (!in(a, 0, 11) || !in(b, 0, 11) || a == b || s.facts.size() == 8) return -2;
        s.facts = new ArrayList<>(s.facts);
        s.facts.add(new int[] {a, b});
        return s.facts.size();
    }

    int orderCount;
    List<Integer> firstOrder;

    void permute(List<Integer> left, List<Integer> order) {
        if (left.isEmpty()) {
            if (canHaveCome(order)) {
                if (firstOrder == null) firstOrder = new ArrayList<>(order);
                orderCount++;
            }
            return;
        }
        for (int p : left) {
            List<Integer> rest = new ArrayList<>(left);
            rest.remove((Integer) p);
            order.add(p);
            permute(rest, order);
            order.remove(order.size() - 1);
        }
    }

    boolean canHaveCome(List<Integer> order) {
        for (int[] f : s.facts) {
            if (order.contains(f[0]) && order.contains(f[1]) && order.indexOf(f[0]) > order.indexOf(f[1])) return false;
        }
        List<Integer> in = new ArrayList<>();
        int gone = 0;
        for (int p : order) {
            in.add(p);
            while (!in.isEmpty() && in.get(in.size() - 1).equals(s.went.get(gone))) {
                in.remove(in.size() - 1);
                gone++;
            }
        }
        return in.isEmpty();
    }

    int orders(int k) {
        if (!in(k, -1, s.went.size() - 1)) return -1;
        orderCount = 0;
        firstOrder = null;
        List<Integer> sorted = new ArrayList<>(s.went);
        sorted.sort(null);
        permute(sorted, new ArrayList<>());
        if (k == -1) return orderCount;
        return firstOrder == null ? -2 : firstOrder.get(k);
    }

    int guest(int c, int g) {
        if (c == -1) { s.guests = new ArrayList<>(); return 0; }
        if (!in(c, 0, 95) || !in(g, 0, 95) || g <= c || s.guests.size() == 12) return -2;
        s.guests = new ArrayList<>(s.guests);
        s.guests.add(new int[] {c, g});
        return s.guests.size();
    }

    int kept(int goes, int till, int what) {
        if (!in(goes, 0, 95) || !in(till, 0, 95) || !in(what, 0, 1)) return -1;
        int best = -1;
        for (int set = 0; set < 1 << s.guests.size(); set++) {
            if (best >= 0 && Integer.bitCount(set) >= Integer.bitCount(best)) continue;
            int could = goes;
            for (int q = 0; q < could; q++) {
                for (int g : list(set)) if (s.guests.get(g)[0] == q) could = Math.max(could, s.guests.get(g)[1]);
            }
            if (could >= till) best = set;
        }
        if (best < 0) return -2;
        return what == 0 ? Integer.bitCount(best) : best;
    }

    static long value(int c, int n, int w, int e, int t, long[] known) {
        if (t >= e) return 0;
        if (known[t] >= 0) return known[t];
        long not = value(c, n, w, e, t + 1, known);
        long let = t + n <= e ? 1000L * w + value(c, n, w, e, t + n, known) : 0;
        known[t] = Math.floorDiv(c * Math.max(not, let) + (16 - c) * not, 16L);
        return known[t];
    }

    int knocks(int c, int n, int w, int e, int t, int what) {
        if (!in(c, 0, 16) || !in(n, 1, 95) || !in(w, 0, 99) || !in(e, 0, 95) || !in(t, 0, 95) || t > e || !in(what, 0, 1)) return -1;
        long[] known = new long[96];
        Arrays.fill(known, -1);
        if (what == 0) return (int) value(c, n, w, e, t, known);
        return t + n <= e && 1000L * w + value(c, n, w, e, t + n, known) > value(c, n, w, e, t + 1, known) ? 1 : 0;
    }

    int seed(int x) {
        if (x < 0) return -1;
        int was = (int) s.x;
        s.x = x;
        return was;
    }

    int evenings(int r, int m, int what) {
        if (!isRule(r) || !in(m, 1, 20) || !in(what, 0, 2)) return -1;
        long x = s.x;
        int n = 0;
        for (int i = 0; i < m; i++) {
            State t = s.copy();
            t.late = 0;
            for (Stay y : t.stays) {
                x = Math.floorMod(x * 1103515245L + 12345L, 2147483648L);
                y.till = Math.min(95, y.till + (int) ((x / 65536) % 4));
            }
            while (t.now < 96) quarter(t, rules.get(r));
            n += what == 0 ? t.late : what == 1 ? t.served() : t.inside() == 0 ? 1 : 0;
        }
        return n;
    }

    int count(int what) {
        if (!in(what, 0, 13)) return -1;
        return new int[] {s.houses.size(), s.stays.size(), rules.size(), s.now, s.late, s.served(), s.missed(), s.inside(),
            s.wishes.size(), s.went.size(), s.facts.size(), s.guests.size(), (int) s.x, tape.size()}[what];
    }

    int image(int k) {
        if (!in(k, 0, 3)) return -1;
        images[k] = s.copy();
        return s.now;
    }

    int back(int k) {
        if (!in(k, 0, 3) || images[k] == null) return -1;
        s = images[k].copy();
        return s.now;
    }
}

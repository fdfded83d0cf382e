import java.util.Arrays;

/**
 * A street whose houses nobody may leave before all who came in after him have gone (or before
 * whoever came first, or as one likes), the people who stay there, and what can be asked of them.
 *
 * <p>All rows are made once and used again: what a run of calls makes is counted.
 */
public final class AfterTheLast {
    public static final int NONE = -1;

    /** What is answered where NONE would be an answer, or is taken already. */
    private static final int REFUSED = -2;

    private static final int PEOPLE = 12;
    private static final int MOST_HOUSES = 6;
    private static final int MOST_STAYS = 18;
    private static final int MOST_RULES = 6;
    private static final int MOST_IMAGES = 4;
    private static final int LAST_QUARTER = 95;
    private static final int BEHIND_ALL = 96;
    private static final int HIGHEST_WORTH = 99;

    private static final int LAW_LAST = 0;
    private static final int LAW_FIRST = 1;
    private static final int LAW_FREE = 2;

    private static final int KIND_COME = 0;
    private static final int KIND_HOLD = 1;
    private static final int KIND_WINDOW = 2;

    private final Reader reader;
    private final RuleReader ruleReader;
    private final Rule[] rules;
    private final Scene scene;
    private final Scene[] images;
    /** A town for what is only tried: a text being read, quarters ahead, evenings. */
    private final Town trial;
    private final Clock clock;
    private final Crossings crossings;
    private final Planner planner;
    private final Rings rings;
    private final Guesses guesses;
    private int ruleCount;

    public AfterTheLast() {
        ruleReader = new RuleReader();
        reader = ruleReader.in;
        rules = new Rule[MOST_RULES];
        scene = new Scene();
        images = new Scene[MOST_IMAGES];
        trial = new Town();
        clock = new Clock();
        crossings = new Crossings();
        planner = new Planner();
        rings = new Rings();
        guesses = new Guesses();
        ruleCount = 0;
    }

    // ---- texts ----

    public int feed(int a, int b, int c, int d, int e) {
        if (!reader.hasPlaceFor(20)) {
            return NONE;
        }
        reader.append(a);
        reader.append(b);
        reader.append(c);
        reader.append(d);
        reader.append(e);
        return reader.length;
    }

    public int end(int n) {
        if (n < 0 || n > reader.length) {
            return NONE;
        }
        reader.length = n;
        return n;
    }

    public int street() {
        int fault = reader.readStreet(trial);
        reader.length = 0;
        if (fault != 0) {
            return REFUSED - fault;
        }
        scene.town.copyFrom(trial);
        return scene.town.houses;
    }

    public int rule() {
        if (ruleCount >= MOST_RULES) {
            return NONE;
        }
        Rule read = ruleReader.read();
        reader.length = 0;
        if (read == null) {
            return REFUSED - reader.fault;
        }
        rules[ruleCount] = read;
        ruleCount++;
        return ruleCount - 1;
    }

    // ---- what is there ----

    public int house(int house, int what) {
        Town town = scene.town;
        if (!town.isHouse(house)) {
            return NONE;
        }
        switch (what) {
            case 0:
                return town.law[house];
            case 1:
                return town.room[house];
            case 2:
                return town.windows[house];
            case 3:
                return town.inside[house];
            case 4:
                return town.lastIn(house);
            case 5:
                return town.firstIn(house);
            default:
                return NONE;
        }
    }

    public int stay(int stay, int what) {
        Town town = scene.town;
        if (!town.isStay(stay)) {
            return NONE;
        }
        switch (what) {
            case 0:
                return town.who[stay];
            case 1:
                return town.where[stay];
            case 2:
                return town.from[stay];
            case 3:
                return town.till[stay];
            case 4:
                return town.worth[stay];
            case 5:
                return town.begun[stay];
            default:
                return NONE;
        }
    }

    public int person(int person, int what) {
        if (!isPerson(person)) {
            return REFUSED;
        }
        Town town = scene.town;
        switch (what) {
            case 0:
                return town.houseOf[person];
            case 1:
                return town.stayOf[person];
            case 2:
                return town.mayLeave(person) ? 1 : 0;
            case 3:
                return town.after(person);
            case 4:
                return town.waitsFor[person];
            case 5:
                return scene.told.going[person];
            default:
                return REFUSED;
        }
    }

    public int count(int what) {
        Town town = scene.town;
        Told told = scene.told;
        switch (what) {
            case 0:
                return town.houses;
            case 1:
                return town.stays;
            case 2:
                return ruleCount;
            case 3:
                return town.now;
            case 4:
                return town.late;
            case 5:
                return town.served();
            case 6:
                return town.missed();
            case 7:
                return town.allInside();
            case 8:
                return told.wishes;
            case 9:
                return told.gone;
            case 10:
                return told.facts;
            case 11:
                return told.guests;
            case 12:
                return told.x;
            case 13:
                return reader.length;
            default:
                return NONE;
        }
    }

    // ---- by hand ----

    public boolean come(int person, int house) {
        Town town = scene.town;
        if (!isPerson(person) || !town.isHouse(house)) {
            return false;
        }
        if (town.houseOf[person] != NONE || town.roomLeft(house) <= 0) {
            return false;
        }
        town.enter(person, house, NONE);
        return true;
    }

    public boolean go(int person, boolean window) {
        Town town = scene.town;
        if (!isPerson(person)) {
            return false;
        }
        if (window) {
            return town.leaveByWindow(person);
        }
        if (!town.mayLeave(person)) {
            return false;
        }
        town.leave(person);
        return true;
    }

    // ---- by rules ----

    public int tick(int rule, int n) {
        Rule by = ruleAt(rule);
        Town town = scene.town;
        if (by == null || n < 1 || n > BEHIND_ALL || town.now + n > BEHIND_ALL) {
            return NONE;
        }
        clock.quarters(by, town, n);
        return town.now;
    }

    public int ahead(int rule, int n, int what) {
        Rule by = ruleAt(rule);
        Town town = scene.town;
        if (by == null || what < 0 || what > 3) {
            return NONE;
        }
        if (n < 0 || n > BEHIND_ALL || town.now + n > BEHIND_ALL) {
            return NONE;
        }
        trial.copyFrom(town);
        clock.quarters(by, trial, n);
        switch (what) {
            case 0:
                return trial.allInside();
            case 1:
                return trial.late - town.late;
            case 2:
                return trial.served();
            default:
                return trial.windowsLeft();
        }
    }

    public int bestRule() {
        int best = REFUSED;
        int fewest = 0;
        int most = 0;
        for (int rule = 0; rule < ruleCount; rule++) {
            trial.copyFrom(scene.town);
            clock.quarters(ruleAt(rule), trial, BEHIND_ALL - trial.now);
            int late = trial.late;
            int served = trial.served();
            if (best < 0 || late < fewest || (late == fewest && served > most)) {
                best = rule;
                fewest = late;
                most = served;
            }
        }
        return best;
    }

    public int evenings(int rule, int m, int what) {
        Rule by = ruleAt(rule);
        if (by == null || m < 1 || m > 20 || what < 0 || what > 2) {
            return NONE;
        }
        Town town = scene.town;
        int x = scene.told.x;
        int together = 0;
        for (int evening = 0; evening < m; evening++) {
            trial.copyFrom(town);
            x = drawTills(trial, x);
            clock.quarters(by, trial, BEHIND_ALL - trial.now);
            if (what == 0) {
                together += trial.late - town.late;
            } else if (what == 1) {
                together += trial.served();
            } else if (trial.allInside() == 0) {
                together++;
            }
        }
        return together;
    }

    public int seed(int x) {
        if (x < 0) {
            return NONE;
        }
        int was = scene.told.x;
        scene.told.x = x;
        return was;
    }

    // ---- sets of stays ----

    public int cross(int one, int other, int law) {
        Town town = scene.town;
        if (!town.isStay(one) || !town.isStay(other) || one == other || !isLaw(law)) {
            return NONE;
        }
        return Crossings.crosses(town, one, other, law) ? 1 : 0;
    }

    public int fits(int stays, int law, int what) {
        Town town = scene.town;
        if (!town.isSetOfStays(stays) || !isLaw(law) || what < 0 || what > 1) {
            return NONE;
        }
        int crossing = Crossings.twosThatCross(town, stays, law);
        if (what == 1) {
            return crossing;
        }
        return crossing == 0 ? 1 : 0;
    }

    public int most(int house, int what) {
        if (!scene.town.isHouse(house) || what < 0 || what > 1) {
            return NONE;
        }
        int score = crossings.bestScore(scene.town, house);
        return what == 0 ? Crossings.worthOf(score) : Crossings.setOf(score);
    }

    public int houses(int stays, int law, int what) {
        Town town = scene.town;
        if (!town.isSetOfStays(stays) || !isLaw(law) || what < 0 || what > 1) {
            return NONE;
        }
        int size = Integer.bitCount(stays);
        if (size < 1 || size > 12) {
            return NONE;
        }
        crossings.draw(town, stays, law);
        return what == 0 ? crossings.fewestParts() : crossings.mostOfWhichAllCross();
    }

    // ---- plans ----

    public int wishes(int person, int house, int from, int till, int duration) {
        Told told = scene.told;
        if (person == NONE) {
            told.wishes = 0;
            return 0;
        }
        if (!isPerson(person) || house < 0 || house >= MOST_HOUSES || told.wishes >= Told.MOST_WISHES) {
            return REFUSED;
        }
        if (!isQuarter(from) || !isQuarter(till) || till <= from || duration < 1) {
            return REFUSED;
        }
        if (duration > till - from || till - from - duration > 11) {
            return REFUSED;
        }
        told.addWish(person, house, from, till, duration);
        return told.wishes;
    }

    public int plan(int what) {
        Told told = scene.told;
        if (what < 0 || what > Told.MOST_WISHES || (what < Told.MOST_WISHES && what >= told.wishes)) {
            return NONE;
        }
        planner.look(told);
        if (what == Told.MOST_WISHES) {
            return planner.howMany();
        }
        return planner.findFirst() ? planner.beginOf(what) : REFUSED;
    }

    // ---- rings ----

    public int waits(int person, int other) {
        if (!isPerson(person) || person == other || (other != NONE && !isPerson(other))) {
            return REFUSED;
        }
        int was = scene.town.waitsFor[person];
        scene.town.waitsFor[person] = other;
        return was;
    }

    public int rings(int what) {
        if (what < 0 || what > 3) {
            return NONE;
        }
        rings.look(scene.town);
        switch (what) {
            case 0:
                return rings.shortest();
            case 1:
                return rings.stuck();
            case 2:
                return rings.undone();
            default:
                return Integer.bitCount(rings.undone());
        }
    }

    public int worth(int person, int n) {
        if (!isPerson(person) || n < 0 || n > HIGHEST_WORTH) {
            return NONE;
        }
        int was = scene.told.going[person];
        scene.told.going[person] = n;
        return was;
    }

    public int asks(int house) {
        Town town = scene.town;
        if (!town.isHouse(house)) {
            return NONE;
        }
        if (town.law[house] != LAW_LAST) {
            return 0;
        }
        int last = town.lastIn(house);
        int together = 0;
        for (int person = 0; person < PEOPLE; person++) {
            if (town.houseOf[person] == house && person != last) {
                together += scene.told.going[person];
            }
        }
        return together;
    }

    // ---- guesses from what is known ----

    public int went(int person) {
        Told told = scene.told;
        if (person == NONE) {
            told.gone = 0;
            return 0;
        }
        if (!isPerson(person) || told.gone >= Told.MOST_GONE || told.placeInRow(person) != NONE) {
            return REFUSED;
        }
        told.row[told.gone] = person;
        told.gone++;
        return told.gone;
    }

    public int before(int one, int other) {
        Told told = scene.told;
        if (one == NONE) {
            told.facts = 0;
            return 0;
        }
        if (!isPerson(one) || !isPerson(other) || one == other || told.facts >= Told.MOST_FACTS) {
            return REFUSED;
        }
        told.earlier[told.facts] = one;
        told.later[told.facts] = other;
        told.facts++;
        return told.facts;
    }

    public int orders(int k) {
        Told told = scene.told;
        if (k < -1 || k >= told.gone) {
            return NONE;
        }
        guesses.countOrders(told);
        if (k == -1) {
            return guesses.howManyOrders();
        }
        return guesses.howManyOrders() == 0 ? REFUSED : guesses.inFirstOrder(told, k);
    }

    public int guest(int come, int go) {
        Told told = scene.told;
        if (come == NONE) {
            told.guests = 0;
            return 0;
        }
        if (!isQuarter(come) || !isQuarter(go) || go <= come || told.guests >= Told.MOST_GUESTS) {
            return REFUSED;
        }
        told.comes[told.guests] = come;
        told.goes[told.guests] = go;
        told.guests++;
        return told.guests;
    }

    public int kept(int goes, int till, int what) {
        if (!isQuarter(goes) || !isQuarter(till) || what < 0 || what > 1) {
            return NONE;
        }
        Told told = scene.told;
        int fewest = Guesses.fewestGuests(told, goes, till);
        if (fewest == NONE) {
            return REFUSED;
        }
        return what == 0 ? fewest : Guesses.leastSetOfGuests(told, goes, till, fewest);
    }

    public int knocks(int c, int n, int w, int e, int t, int what) {
        if (c < 0 || c > 16 || n < 1 || n > LAST_QUARTER || w < 0 || w > HIGHEST_WORTH) {
            return NONE;
        }
        if (!isQuarter(e) || t < 0 || t > e || what < 0 || what > 1) {
            return NONE;
        }
        guesses.valueKnocks(c, n, 1000 * w, e);
        if (what == 0) {
            return guesses.valueAt(t);
        }
        return guesses.lettingIn(n, 1000 * w, e, t) > guesses.valueAt(t + 1) ? 1 : 0;
    }

    // ---- images ----

    public int image(int k) {
        if (k < 0 || k >= MOST_IMAGES) {
            return NONE;
        }
        Scene kept = images[k];
        if (kept == null) {
            kept = new Scene();
            images[k] = kept;
        }
        kept.copyFrom(scene);
        return scene.town.now;
    }

    public int back(int k) {
        if (k < 0 || k >= MOST_IMAGES) {
            return NONE;
        }
        Scene kept = images[k];
        if (kept == null) {
            return NONE;
        }
        scene.copyFrom(kept);
        return scene.town.now;
    }

    // ---- small helpers ----

    private static boolean isPerson(int person) {
        return person >= 0 && person < PEOPLE;
    }

    private static boolean isQuarter(int quarter) {
        return quarter >= 0 && quarter <= LAST_QUARTER;
    }

    private static boolean isLaw(int law) {
        return law >= LAW_LAST && law <= LAW_FREE;
    }

    private Rule ruleAt(int rule) {
        return rule >= 0 && rule < ruleCount ? rules[rule] : null;
    }

    /** Puts off the tills of a town by draws; answers the x behind them. */
    private static int drawTills(Town town, int x) {
        int drawn = x;
        for (int stay = 0; stay < town.stays; stay++) {
            drawn = (int) ((drawn * 1103515245L + 12345L) & 2147483647L);
            town.till[stay] = Math.min(LAST_QUARTER, town.till[stay] + (drawn >> 16) % 4);
        }
        return drawn;
    }

    /** The tape, and a street read from it; of all faults the first one told is kept. */
    private static final class Reader {
        private static final int MOST_BYTES = 400;
        private static final int MOST_DIGITS = 5;
        private static final int MOST_CLAUSES = 24;
        private static final int END = -1;

        private static final int FAULT_SIGN = 0;
        private static final int FAULT_NUMBER = 1;
        private static final int FAULT_DEEP = 2;
        private static final int FAULT_LONG = 3;
        private static final int FAULT_CLAUSES = 4;

        private final int[] bytes = new int[MOST_BYTES];
        private int length = 0;
        private int place = 0;
        private int fault = 0;

        private boolean hasPlaceFor(int more) {
            return length + more <= MOST_BYTES;
        }

        private void append(int number) {
            if (!hasPlaceFor(4)) {
                return;
            }
            for (int shift = 24; shift >= 0; shift -= 8) {
                bytes[length] = (number >> shift) & 255;
                length++;
            }
        }

        private void rewind() {
            place = 0;
            fault = 0;
        }

        private boolean fine() {
            return fault == 0;
        }

        private void fail(int kind) {
            failAt(place, kind);
        }

        private void failAt(int where, int kind) {
            if (fault == 0) {
                fault = 1 + 8 * where + kind;
            }
        }

        /** The next byte that is no blank, which is the place then; END behind the last one. */
        private int next() {
            while (place < length && bytes[place] == ' ') {
                place++;
            }
            return place < length ? bytes[place] : END;
        }

        private void skip(int count) {
            place += count;
        }

        /** Whether this word, whole, begins at the place. */
        private boolean isAt(String word) {
            int behind = place + word.length();
            if (behind > length) {
                return false;
            }
            for (int i = 0; i < word.length(); i++) {
                if (bytes[place + i] != word.charAt(i)) {
                    return false;
                }
            }
            return behind == length || bytes[behind] < 'a' || bytes[behind] > 'z';
        }

        /** Goes behind two bytes that stand at the place. */
        private boolean takePair(char one, char other) {
            boolean there = place + 1 < length && bytes[place] == one && bytes[place + 1] == other;
            if (there) {
                skip(2);
            }
            return there;
        }

        /** Goes behind the next word if it is this one. */
        private boolean take(String word) {
            next();
            if (!fine() || !isAt(word)) {
                return false;
            }
            skip(word.length());
            return true;
        }

        /** A number from low to high; another one, or none, is a fault. */
        private int number(int low, int high) {
            if (!fine()) {
                return 0;
            }
            if (!isDigit(next())) {
                fail(FAULT_SIGN);
                return 0;
            }
            int value = 0;
            int behind = place;
            while (behind < length && isDigit(bytes[behind])) {
                // more digits than that are a fault, whatever they are
                value = behind - place < MOST_DIGITS ? 10 * value + bytes[behind] - '0' : value;
                behind++;
            }
            if (behind - place > MOST_DIGITS || value < low || value > high) {
                fail(FAULT_NUMBER);
                return 0;
            }
            place = behind;
            return value;
        }

        private static boolean isDigit(int sign) {
            return sign >= '0' && sign <= '9';
        }

        /** Reads the tape into a town; answers the fault, 0 if there is none. */
        private int readStreet(Town town) {
            rewind();
            town.clear();
            boolean another = true;
            for (int clause = 0; clause <= MOST_CLAUSES && another && fine(); clause++) {
                readClause(town, clause < MOST_CLAUSES);
                int sign = next();
                another = sign == ';';
                if (another) {
                    skip(1);
                } else if (sign != END) {
                    fail(FAULT_SIGN);
                }
            }
            return fault;
        }

        private void readClause(Town town, boolean more) {
            next();
            boolean house = isAt("house");
            if (!house && !isAt("stay")) {
                fail(FAULT_SIGN);
            } else if (!more || (house ? town.houses >= MOST_HOUSES : town.stays >= MOST_STAYS)) {
                fail(FAULT_CLAUSES);
            } else if (house) {
                skip(5);
                readHouse(town);
            } else {
                skip(4);
                readStay(town);
            }
        }

        private void readHouse(Town town) {
            int law = LAW_FREE;
            if (take("last")) {
                law = LAW_LAST;
            } else if (take("first")) {
                law = LAW_FIRST;
            } else if (!take("free")) {
                fail(FAULT_SIGN);
            }
            int room = number(1, PEOPLE);
            int windows = number(0, 9);
            if (fine()) {
                town.addHouse(law, room, windows);
            }
        }

        private void readStay(Town town) {
            int person = number(0, PEOPLE - 1);
            int house = number(0, town.houses - 1);
            int from = number(0, LAST_QUARTER);
            int till = number(from + 1, LAST_QUARTER);
            int worth = number(0, HIGHEST_WORTH);
            if (fine()) {
                town.addStay(person, house, from, till, worth);
            }
        }
    }

    /** A rule as a row of steps, those of each clause together; a step that jumps only jumps on. */
    private static final class Rule {
        private static final int MOST_CLAUSES = 12;

        private static final int NUMBER = 0;
        private static final int WORD = 1;
        private static final int PLUS = 2;
        private static final int MINUS = 3;
        private static final int TIMES = 4;
        private static final int BY = 5;
        private static final int LESS = 6;
        private static final int AT_MOST = 7;
        private static final int EQUAL = 8;
        private static final int AT_LEAST = 9;
        private static final int MORE = 10;
        private static final int NOT = 11;
        /** Jumps to its argument if the fact so far is false, and drops it otherwise. */
        private static final int AND = 12;
        /** Jumps to its argument if the fact so far is true, and drops it otherwise. */
        private static final int OR = 13;

        private static final int WORD_NOW = 0;
        private static final int WORD_PERSON = 1;
        private static final int WORD_HOUSE = 2;
        private static final int WORD_INSIDE = 3;
        private static final int WORD_AFTER = 4;
        private static final int WORD_ROOM = 5;
        private static final int WORD_WINDOWS = 6;
        private static final int WORD_WORTH = 7;
        private static final int WORD_LATE = 8;
        private static final int WORD_LONG = 9;

        private final int[] steps;
        private final int[] arguments;
        /** Of each clause what it is about, and the step behind its last one. */
        private final int[] kinds;
        private final int[] ends;
        private final int clauses;

        private Rule(RuleReader from) {
            steps = Arrays.copyOf(from.steps, from.length);
            arguments = Arrays.copyOf(from.arguments, from.length);
            kinds = Arrays.copyOf(from.kinds, from.clauses);
            ends = Arrays.copyOf(from.ends, from.clauses);
            clauses = from.clauses;
        }

        private boolean has(int kind) {
            for (int clause = 0; clause < clauses; clause++) {
                if (kinds[clause] == kind) {
                    return true;
                }
            }
            return false;
        }

        private int start(int clause) {
            return clause > 0 && clause <= clauses ? ends[clause - 1] : 0;
        }
    }

    /**
     * Reads a rule, turning it into steps as it goes. A step that joins two sides waits till its
     * second side is read; whatever binds less then lets it come.
     */
    private static final class RuleReader {
        private static final int MOST_DEEP = 10;
        private static final int MOST_PARTS = 60;
        private static final int MOST_STEPS = Reader.MOST_BYTES;
        /** More than ten deep, with an or and an and at each depth, and a sum, can need. */
        private static final int MOST_WAITING = 48;

        /** Waits like a step, but is none: it keeps what stands ahead of a bracket waiting. */
        private static final int BRACKET = 14;

        private static final int BINDS_OR = 1;
        private static final int BINDS_AND = 2;
        private static final int BINDS_NOT = 3;
        private static final int BINDS_SIGN = 4;
        private static final int BINDS_PLUS = 5;
        private static final int BINDS_TIMES = 6;

        // what can stand at the place
        private static final int CLAUSE = 0;
        private static final int FACT = 1;
        private static final int LEFT_VALUE = 2;
        private static final int RIGHT_VALUE = 3;
        private static final int BEHIND_LEFT = 4;
        private static final int BEHIND_RIGHT = 5;
        private static final int BEHIND_FACT = 6;
        private static final int NOTHING = 7;

        private final Reader in = new Reader();
        private final int[] steps = new int[MOST_STEPS];
        private final int[] arguments = new int[MOST_STEPS];
        private final int[] kinds = new int[Rule.MOST_CLAUSES];
        private final int[] ends = new int[Rule.MOST_CLAUSES];
        private final int[] waiting = new int[MOST_WAITING];
        private final int[] jumps = new int[MOST_WAITING];
        private final int[] binding = new int[MOST_WAITING];
        private int length = 0;
        private int clauses = 0;
        private int waitingCount = 0;
        /** Values and signs so far. */
        private int parts = 0;
        private int deep = 0;
        private int brackets = 0;
        private int expected = CLAUSE;

        /** The rule on the tape; null if there is a fault, which the reader tells. */
        private Rule read() {
            in.rewind();
            length = 0;
            clauses = 0;
            waitingCount = 0;
            parts = 0;
            deep = 0;
            brackets = 0;
            expected = CLAUSE;
            for (int i = 0; i <= Reader.MOST_BYTES && in.fine() && expected != NOTHING; i++) {
                readNext(in.next());
            }
            return in.fine() ? new Rule(this) : null;
        }

        private void readNext(int sign) {
            boolean opens = sign == '[' || in.isAt("not");
            boolean joins = sign == '+' || sign == '-' || sign == '*' || sign == '/';
            if (expected == CLAUSE) {
                readClauseWord();
            } else if (expected == FACT && opens) {
                readOpening(sign == '[');
            } else if (expected <= RIGHT_VALUE) {
                readValue(sign);
            } else if (joins && expected != BEHIND_FACT) {
                readJoining(sign);
            } else if (expected == BEHIND_LEFT) {
                readSign(sign);
            } else {
                readBehindFact(sign);
            }
        }

        private void readClauseWord() {
            int kind = NONE;
            if (in.isAt("come")) {
                kind = KIND_COME;
            } else if (in.isAt("hold")) {
                kind = KIND_HOLD;
            } else if (in.isAt("window")) {
                kind = KIND_WINDOW;
            }
            if (kind == NONE) {
                in.fail(Reader.FAULT_SIGN);
            } else if (clauses >= Rule.MOST_CLAUSES) {
                in.fail(Reader.FAULT_CLAUSES);
            } else {
                in.skip(kind == KIND_WINDOW ? 6 : 4);
                kinds[clauses] = kind;
                expected = FACT;
            }
        }

        private void readOpening(boolean bracket) {
            if (deep >= MOST_DEEP) {
                in.fail(Reader.FAULT_DEEP);
                return;
            }
            deep++;
            if (bracket) {
                brackets++;
                in.skip(1);
                keepWaiting(BRACKET, 0, NONE);
            } else {
                in.skip(3);
                keepWaiting(Rule.NOT, BINDS_NOT, NONE);
            }
        }

        private void readValue(int sign) {
            int begin = in.place;
            boolean isNumber = Reader.isDigit(sign);
            int value = isNumber ? in.number(0, 99999) : takeWord();
            if (value == NONE) {
                in.fail(Reader.FAULT_SIGN);
                return;
            }
            countPart(begin);
            add(isNumber ? Rule.NUMBER : Rule.WORD, value);
            expected = expected == RIGHT_VALUE ? BEHIND_RIGHT : BEHIND_LEFT;
        }

        private int takeWord() {
            if (in.take("now")) {
                return Rule.WORD_NOW;
            } else if (in.take("person")) {
                return Rule.WORD_PERSON;
            } else if (in.take("house")) {
                return Rule.WORD_HOUSE;
            } else if (in.take("inside")) {
                return Rule.WORD_INSIDE;
            } else if (in.take("after")) {
                return Rule.WORD_AFTER;
            } else if (in.take("room")) {
                return Rule.WORD_ROOM;
            } else if (in.take("windows")) {
                return Rule.WORD_WINDOWS;
            } else if (in.take("worth")) {
                return Rule.WORD_WORTH;
            } else if (in.take("late")) {
                return Rule.WORD_LATE;
            } else if (in.take("long")) {
                return Rule.WORD_LONG;
            }
            return NONE;
        }

        private void readJoining(int sign) {
            in.skip(1);
            boolean sum = sign == '+' || sign == '-';
            int binds = sum ? BINDS_PLUS : BINDS_TIMES;
            settle(binds);
            if (sum) {
                keepWaiting(sign == '+' ? Rule.PLUS : Rule.MINUS, binds, NONE);
            } else {
                keepWaiting(sign == '*' ? Rule.TIMES : Rule.BY, binds, NONE);
            }
            expected = expected == BEHIND_LEFT ? LEFT_VALUE : RIGHT_VALUE;
        }

        private void readSign(int sign) {
            if (sign != '<' && sign != '=' && sign != '>') {
                in.fail(Reader.FAULT_SIGN);
                return;
            }
            countPart(in.place);
            // the two bytes of <= and >= stand together, without a blank
            int step = Rule.EQUAL;
            if (in.takePair('<', '=')) {
                step = Rule.AT_MOST;
            } else if (in.takePair('>', '=')) {
                step = Rule.AT_LEAST;
            } else {
                in.skip(1);
                if (sign != '=') {
                    step = sign == '<' ? Rule.LESS : Rule.MORE;
                }
            }
            settle(BINDS_SIGN);
            keepWaiting(step, BINDS_SIGN, NONE);
            expected = RIGHT_VALUE;
        }

        private void readBehindFact(int sign) {
            if (in.isAt("or")) {
                in.skip(2);
                settle(BINDS_OR);
                keepWaiting(Rule.OR, BINDS_OR, add(Rule.OR, 0));
                expected = FACT;
            } else if (in.isAt("and")) {
                in.skip(3);
                settle(BINDS_AND);
                keepWaiting(Rule.AND, BINDS_AND, add(Rule.AND, 0));
                expected = FACT;
            } else if (sign == ']' && brackets > 0) {
                in.skip(1);
                closeBracket();
                expected = BEHIND_FACT;
            } else if ((sign == ';' || sign == Reader.END) && brackets == 0) {
                in.skip(sign == ';' ? 1 : 0);
                endClause();
                expected = sign == ';' ? CLAUSE : NOTHING;
            } else {
                in.fail(Reader.FAULT_SIGN);
            }
        }

        private void closeBracket() {
            settle(BINDS_OR);
            brackets--;
            deep--;
            if (waitingCount > 0) {
                waitingCount--;
            }
        }

        private void endClause() {
            settle(BINDS_OR);
            if (clauses < Rule.MOST_CLAUSES) {
                ends[clauses] = length;
                clauses++;
            }
        }

        /** A value or a sign that begins at a place: one more of them. */
        private void countPart(int begin) {
            if (parts >= MOST_PARTS) {
                in.failAt(begin, Reader.FAULT_LONG);
            }
            parts++;
        }

        private void keepWaiting(int step, int binds, int jump) {
            if (waitingCount < MOST_WAITING) {
                waiting[waitingCount] = step;
                binding[waitingCount] = binds;
                jumps[waitingCount] = jump;
                waitingCount++;
            }
        }

        /** Lets come what waits, as far as it binds as much as this or more. */
        private void settle(int binds) {
            while (waitingCount > 0 && binding[waitingCount - 1] >= binds) {
                waitingCount--;
                int jump = jumps[waitingCount];
                if (jump >= 0 && jump < MOST_STEPS) {
                    arguments[jump] = length;
                } else {
                    add(waiting[waitingCount], 0);
                }
                if (waiting[waitingCount] == Rule.NOT) {
                    deep--;
                }
            }
        }

        /** Puts a step behind the others; answers where it stands. */
        private int add(int step, int argument) {
            if (length >= MOST_STEPS) {
                return NONE;
            }
            steps[length] = step;
            arguments[length] = argument;
            length++;
            return length - 1;
        }
    }

    /** The street, its people and the time: all that quarters change. */
    private static final class Town {
        private int houses = 0;
        private final int[] law = new int[MOST_HOUSES];
        private final int[] room = new int[MOST_HOUSES];
        private final int[] windows = new int[MOST_HOUSES];
        private final int[] inside = new int[MOST_HOUSES];
        /** Of each house those inside, in the order they came: PEOPLE places each. */
        private final int[] rows = new int[MOST_HOUSES * PEOPLE];
        private int stays = 0;
        private final int[] who = new int[MOST_STAYS];
        private final int[] where = new int[MOST_STAYS];
        private final int[] from = new int[MOST_STAYS];
        private final int[] till = new int[MOST_STAYS];
        private final int[] worth = new int[MOST_STAYS];
        private final int[] begun = new int[MOST_STAYS];
        private int now = 0;
        private int late = 0;
        private final int[] houseOf = new int[PEOPLE];
        private final int[] stayOf = new int[PEOPLE];
        private final int[] waitsFor = new int[PEOPLE];

        private Town() {
            clear();
        }

        private void clear() {
            houses = 0;
            stays = 0;
            now = 0;
            late = 0;
            Arrays.fill(inside, 0);
            Arrays.fill(houseOf, NONE);
            Arrays.fill(stayOf, NONE);
            Arrays.fill(waitsFor, NONE);
        }

        private void copyFrom(Town other) {
            houses = other.houses;
            stays = other.stays;
            now = other.now;
            late = other.late;
            System.arraycopy(other.law, 0, law, 0, MOST_HOUSES);
            System.arraycopy(other.room, 0, room, 0, MOST_HOUSES);
            System.arraycopy(other.windows, 0, windows, 0, MOST_HOUSES);
            System.arraycopy(other.inside, 0, inside, 0, MOST_HOUSES);
            System.arraycopy(other.rows, 0, rows, 0, MOST_HOUSES * PEOPLE);
            System.arraycopy(other.who, 0, who, 0, MOST_STAYS);
            System.arraycopy(other.where, 0, where, 0, MOST_STAYS);
            System.arraycopy(other.from, 0, from, 0, MOST_STAYS);
            System.arraycopy(other.till, 0, till, 0, MOST_STAYS);
            System.arraycopy(other.worth, 0, worth, 0, MOST_STAYS);
            System.arraycopy(other.begun, 0, begun, 0, MOST_STAYS);
            System.arraycopy(other.houseOf, 0, houseOf, 0, PEOPLE);
            System.arraycopy(other.stayOf, 0, stayOf, 0, PEOPLE);
            System.arraycopy(other.waitsFor, 0, waitsFor, 0, PEOPLE);
        }

        private void addHouse(int itsLaw, int itsRoom, int itsWindows) {
            if (houses < MOST_HOUSES) {
                law[houses] = itsLaw;
                room[houses] = itsRoom;
                windows[houses] = itsWindows;
                houses++;
            }
        }

        private void addStay(int person, int house, int begin, int end, int itsWorth) {
            if (stays < MOST_STAYS) {
                who[stays] = person;
                where[stays] = house;
                from[stays] = begin;
                till[stays] = end;
                worth[stays] = itsWorth;
                begun[stays] = 0;
                stays++;
            }
        }

        private boolean isHouse(int house) {
            return house >= 0 && house < houses;
        }

        private boolean isStay(int stay) {
            return stay >= 0 && stay < stays;
        }

        private boolean isSetOfStays(int set) {
            return set >= 0 && set < 1 << stays;
        }

        private int roomLeft(int house) {
            return room[house] - inside[house];
        }

        private int firstIn(int house) {
            return inside[house] > 0 ? rows[house * PEOPLE] : NONE;
        }

        private int lastIn(int house) {
            return inside[house] > 0 ? rows[house * PEOPLE + inside[house] - 1] : NONE;
        }

        /** Where somebody stands in the row of his house, 0 for who came first; NONE outside. */
        private int placeOf(int person) {
            int house = houseOf[person];
            if (!isHouse(house)) {
                return NONE;
            }
            for (int place = 0; place < inside[house]; place++) {
                if (rows[house * PEOPLE + place] == person) {
                    return place;
                }
            }
            return NONE;
        }

        /** How many came in after somebody; 0 outside. */
        private int after(int person) {
            int house = houseOf[person];
            if (house < 0 || house >= houses) {
                return 0;
            }
            int many = 0;
            for (int place = inside[house] - 1; place >= 0 && rows[house * PEOPLE + place] != person; place--) {
                many++;
            }
            return many;
        }

        private boolean mayLeave(int person) {
            int house = houseOf[person];
            if (!isHouse(house)) {
                return false;
            }
            if (law[house] == LAW_LAST) {
                return lastIn(house) == person;
            }
            return law[house] == LAW_FREE || firstIn(house) == person;
        }

        /** Somebody outside comes into a house with room, for a stay or (NONE) by hand. */
        private void enter(int person, int house, int stay) {
            if (!isHouse(house) || inside[house] >= PEOPLE) {
                return;
            }
            rows[house * PEOPLE + inside[house]] = person;
            inside[house]++;
            houseOf[person] = house;
            stayOf[person] = stay;
            if (isStay(stay)) {
                begun[stay] = 1;
            }
            endWaits(person, house);
        }

        /** Behind a coming: those who waited for him there, and he for one there, wait no longer. */
        private void endWaits(int person, int house) {
            for (int other = 0; other < PEOPLE; other++) {
                if (houseOf[other] == house) {
                    if (waitsFor[other] == person) {
                        waitsFor[other] = NONE;
                    }
                    if (waitsFor[person] == other) {
                        waitsFor[person] = NONE;
                    }
                }
            }
        }

        private void leave(int person) {
            int place = placeOf(person);
            if (place == NONE) {
                return;
            }
            int house = houseOf[person];
            for (int i = place; i < inside[house] - 1; i++) {
                rows[house * PEOPLE + i] = rows[house * PEOPLE + i + 1];
            }
            inside[house]--;
            houseOf[person] = NONE;
            stayOf[person] = NONE;
        }

        private boolean leaveByWindow(int person) {
            int house = houseOf[person];
            if (!isHouse(house) || windows[house] <= 0) {
                return false;
            }
            leave(person);
            windows[house]--;
            return true;
        }

        /** Whether somebody is in a house for a stay whose time is over. */
        private boolean isDue(int person) {
            int stay = stayOf[person];
            return isStay(stay) && till[stay] <= now;
        }

        /** Of each person the first of his stays that he could begin now; NONE: there is none. */
        private void findStaysToBegin(int[] firsts) {
            Arrays.fill(firsts, NONE);
            for (int stay = stays - 1; stay >= 0; stay--) {
                if (begun[stay] == 0 && from[stay] <= now && till[stay] > now) {
                    firsts[who[stay]] = stay;
                }
            }
        }

        private int served() {
            int many = 0;
            for (int stay = 0; stay < stays; stay++) {
                many += begun[stay];
            }
            return many;
        }

        private int missed() {
            int many = 0;
            for (int stay = 0; stay < stays; stay++) {
                if (begun[stay] == 0 && till[stay] <= now) {
                    many++;
                }
            }
            return many;
        }

        private int allInside() {
            int many = 0;
            for (int house = 0; house < houses; house++) {
                many += inside[house];
            }
            return many;
        }

        private int windowsLeft() {
            int many = 0;
            for (int house = 0; house < houses; house++) {
                many += windows[house];
            }
            return many;
        }
    }

    /** What is told beside the street: worths of going, wishes, who went, facts, guests, x. */
    private static final class Told {
        private static final int MOST_WISHES = 6;
        private static final int MOST_GONE = 8;
        private static final int MOST_FACTS = 8;
        private static final int MOST_GUESTS = 12;

        private final int[] going = new int[PEOPLE];
        private int wishes = 0;
        private final int[] wisher = new int[MOST_WISHES];
        private final int[] wished = new int[MOST_WISHES];
        private final int[] earliest = new int[MOST_WISHES];
        private final int[] latest = new int[MOST_WISHES];
        private final int[] duration = new int[MOST_WISHES];
        private int gone = 0;
        private final int[] row = new int[MOST_GONE];
        private int facts = 0;
        private final int[] earlier = new int[MOST_FACTS];
        private final int[] later = new int[MOST_FACTS];
        private int guests = 0;
        private final int[] comes = new int[MOST_GUESTS];
        private final int[] goes = new int[MOST_GUESTS];
        private int x = 0;

        private void copyFrom(Told other) {
            wishes = other.wishes;
            gone = other.gone;
            facts = other.facts;
            guests = other.guests;
            x = other.x;
            System.arraycopy(other.going, 0, going, 0, PEOPLE);
            System.arraycopy(other.wisher, 0, wisher, 0, MOST_WISHES);
            System.arraycopy(other.wished, 0, wished, 0, MOST_WISHES);
            System.arraycopy(other.earliest, 0, earliest, 0, MOST_WISHES);
            System.arraycopy(other.latest, 0, latest, 0, MOST_WISHES);
            System.arraycopy(other.duration, 0, duration, 0, MOST_WISHES);
            System.arraycopy(other.row, 0, row, 0, MOST_GONE);
            System.arraycopy(other.earlier, 0, earlier, 0, MOST_FACTS);
            System.arraycopy(other.later, 0, later, 0, MOST_FACTS);
            System.arraycopy(other.comes, 0, comes, 0, MOST_GUESTS);
            System.arraycopy(other.goes, 0, goes, 0, MOST_GUESTS);
        }

        private void addWish(int person, int house, int begin, int end, int quarters) {
            if (wishes < MOST_WISHES) {
                wisher[wishes] = person;
                wished[wishes] = house;
                earliest[wishes] = begin;
                latest[wishes] = end;
                duration[wishes] = quarters;
                wishes++;
            }
        }

        /** Where somebody stands in the row of those who went; NONE: nowhere. */
        private int placeInRow(int person) {
            for (int place = 0; place < gone; place++) {
                if (row[place] == person) {
                    return place;
                }
            }
            return NONE;
        }
    }

    /** All that an image holds. */
    private static final class Scene {
        private final Town town = new Town();
        private final Told told = new Told();

        private void copyFrom(Scene other) {
            town.copyFrom(other.town);
            told.copyFrom(other.told);
        }
    }

    /** Lets quarters pass by a rule. */
    private static final class Clock {
        /** No rule has more values than this, so no more can lie on one another. */
        private static final int MOST_VALUES = 64;

        private final long[] values = new long[MOST_VALUES];
        private final int[] toBegin = new int[PEOPLE];

        private void quarters(Rule rule, Town town, int many) {
            if (rule == null) {
                return;
            }
            for (int i = 0; i < many; i++) {
                letGo(rule, town);
                letOutByWindow(rule, town);
                letIn(rule, town);
                countLate(town);
                town.now++;
            }
        }

        /** Whoever goes may set one free who stands ahead of him: so the search begins again. */
        private void letGo(Rule rule, Town town) {
            boolean gone = true;
            for (int i = 0; i < PEOPLE && gone; i++) {
                gone = false;
                for (int person = 0; person < PEOPLE && !gone; person++) {
                    if (town.isDue(person) && town.mayLeave(person)
                            && !someTestHolds(rule, KIND_HOLD, town, person, town.stayOf[person])) {
                        town.leave(person);
                        gone = true;
                    }
                }
            }
        }

        private void letOutByWindow(Rule rule, Town town) {
            if (!rule.has(KIND_WINDOW)) {
                return;
            }
            for (int person = 0; person < PEOPLE; person++) {
                if (town.isDue(person)
                        && someTestHolds(rule, KIND_WINDOW, town, person, town.stayOf[person])) {
                    town.leaveByWindow(person);
                }
            }
        }

        private void letIn(Rule rule, Town town) {
            boolean anybody = !rule.has(KIND_COME);
            // a coming begins a stay of whoever comes alone: so they can be found ahead, for all at once
            town.findStaysToBegin(toBegin);
            for (int person = 0; person < PEOPLE; person++) {
                int stay = toBegin[person];
                if (stay != NONE && town.houseOf[person] == NONE && town.roomLeft(town.where[stay]) > 0
                        && (anybody || someTestHolds(rule, KIND_COME, town, person, stay))) {
                    town.enter(person, town.where[stay], stay);
                }
            }
        }

        private static void countLate(Town town) {
            for (int person = 0; person < PEOPLE; person++) {
                if (town.isDue(person)) {
                    town.late++;
                }
            }
        }

        private boolean someTestHolds(Rule rule, int kind, Town town, int person, int stay) {
            for (int clause = 0; clause < rule.clauses; clause++) {
                if (rule.kinds[clause] == kind && testHolds(rule, clause, town, person, stay)) {
                    return true;
                }
            }
            return false;
        }

        private boolean testHolds(Rule rule, int clause, Town town, int person, int stay) {
            int top = 0;
            int end = rule.ends[clause];
            for (int at = rule.start(clause); at < end; at++) {
                int step = rule.steps[at];
                int argument = rule.arguments[at];
                if (step == Rule.NUMBER || step == Rule.WORD) {
                    if (top >= MOST_VALUES) {
                        return false;
                    }
                    values[top] = step == Rule.NUMBER ? argument : wordValue(argument, town, person, stay);
                    top++;
                } else if (top < 1) {
                    return false;
                } else if (step == Rule.NOT) {
                    values[top - 1] = 1 - values[top - 1];
                } else if (step == Rule.AND || step == Rule.OR) {
                    if ((values[top - 1] != 0) == (step == Rule.OR)) {
                        // the loop itself goes one step on; a jump never goes back
                        at = Math.max(at, argument - 1);
                    } else {
                        top--;
                    }
                } else if (top < 2) {
                    return false;
                } else {
                    top--;
                    values[top - 1] = joined(step, values[top - 1], values[top]);
                }
            }
            return top > 0 && values[top - 1] != 0;
        }

        private static long joined(int step, long left, long right) {
            switch (step) {
                case Rule.PLUS:
                    return left + right;
                case Rule.MINUS:
                    return left - right;
                case Rule.TIMES:
                    return left * right;
                case Rule.BY:
                    return right == 0 ? 0 : left / right;
                case Rule.LESS:
                    return left < right ? 1 : 0;
                case Rule.AT_MOST:
                    return left <= right ? 1 : 0;
                case Rule.EQUAL:
                    return left == right ? 1 : 0;
                case Rule.AT_LEAST:
                    return left >= right ? 1 : 0;
                default:
                    return left > right ? 1 : 0;
            }
        }

        private static long wordValue(int word, Town town, int person, int stay) {
            if (!isPerson(person) || !town.isStay(stay)) {
                return 0;
            }
            int house = town.where[stay];
            switch (word) {
                case Rule.WORD_NOW:
                    return town.now;
                case Rule.WORD_PERSON:
                    return person;
                case Rule.WORD_HOUSE:
                    return house;
                case Rule.WORD_INSIDE:
                    return town.inside[house];
                case Rule.WORD_AFTER:
                    return town.houseOf[person] == house ? town.after(person) : 0;
                case Rule.WORD_ROOM:
                    return town.roomLeft(house);
                case Rule.WORD_WINDOWS:
                    return town.windows[house];
                case Rule.WORD_WORTH:
                    return town.worth[stay];
                case Rule.WORD_LATE:
                    return Math.max(0, town.now - town.till[stay]);
                default:
                    return Math.max(0, town.till[stay] - town.now);
            }
        }
    }

    /** Which stays cross, and sets of stays that do or don't. */
    private static final class Crossings {
        private static final int MOST_POINTS = 12;
        private static final int SET_BITS = MOST_STAYS;

        /** The stays of a house, those that end first ahead, of these the ones that begin last. */
        private final int[] order = new int[MOST_STAYS];
        /** Of each in that order how many end not behind its begin: these stand ahead of all others. */
        private final int[] over = new int[MOST_STAYS];
        private final int[] outer = new int[MOST_STAYS];
        private final int[] inner = new int[MOST_STAYS];
        private final int[] chain = new int[MOST_STAYS + 1];
        /** Of each point of a set of stays the points that it crosses, as bits. */
        private final int[] crossed = new int[MOST_POINTS];
        private final int[] parts = new int[MOST_POINTS];
        private final int[] picked = new int[MOST_POINTS];
        private int points = 0;

        private static boolean crosses(Town town, int one, int other, int law) {
            return crossesBehind(town, one, other, law) || crossesBehind(town, other, one, law);
        }

        /** Whether the later one, which must begin behind the earlier one, crosses it. */
        private static boolean crossesBehind(Town town, int earlier, int later, int law) {
            if (town.from[later] <= town.from[earlier]) {
                return false;
            }
            if (law == LAW_LAST) {
                return town.from[later] < town.till[earlier] && town.till[later] > town.till[earlier];
            }
            return law == LAW_FIRST && town.till[later] < town.till[earlier];
        }

        private static int twosThatCross(Town town, int set, int law) {
            int many = 0;
            for (int one = 0; one < town.stays; one++) {
                for (int other = one + 1; other < town.stays; other++) {
                    if ((set >> one & 1) == 1 && (set >> other & 1) == 1 && crosses(town, one, other, law)) {
                        many++;
                    }
                }
            }
            return many;
        }

        // Worth and set are one number, the worth in the high bits less the set in the low ones:
        // the greatest such number has the greatest worth and, of these, the least set.

        private static int score(Town town, int stay) {
            return (town.worth[stay] << SET_BITS) - (1 << stay);
        }

        private static int worthOf(int score) {
            return (score + (1 << SET_BITS) - 1) >> SET_BITS;
        }

        private static int setOf(int score) {
            return (worthOf(score) << SET_BITS) - score;
        }

        /**
         * Stays that don't cross lie within or beside one another. So the best of what fits into a
         * stay is a chain of stays beside one another, each with the best that fits into it, with
         * one place less for each one that goes about the others.
         */
        private int bestScore(Town town, int house) {
            int many = sortStays(town, house);
            Arrays.fill(outer, 0);
            for (int places = 1; places <= town.room[house]; places++) {
                System.arraycopy(outer, 0, inner, 0, MOST_STAYS);
                for (int i = 0; i < many; i++) {
                    int within = places > 1 ? bestChain(town, inner, i, town.from[order[i]]) : 0;
                    outer[i] = score(town, order[i]) + within;
                }
            }
            return bestChain(town, outer, many, 0);
        }

        /** The best chain of the first ones in the order, of those that begin at a quarter or later. */
        private int bestChain(Town town, int[] scores, int many, int begin) {
            chain[0] = 0;
            for (int i = 0; i < many; i++) {
                chain[i + 1] = chain[i];
                if (town.from[order[i]] >= begin) {
                    chain[i + 1] = Math.max(chain[i], scores[i] + chain[over[i]]);
                }
            }
            return chain[many];
        }

        private int sortStays(Town town, int house) {
            int many = 0;
            for (int stay = 0; stay < town.stays; stay++) {
                if (town.where[stay] == house) {
                    int at = many;
                    while (at > 0 && standsAhead(town, stay, order[at - 1])) {
                        order[at] = order[at - 1];
                        at--;
                    }
                    order[at] = stay;
                    many++;
                }
            }
            for (int i = 0; i < many; i++) {
                over[i] = 0;
                while (over[i] < i && town.till[order[over[i]]] <= town.from[order[i]]) {
                    over[i]++;
                }
            }
            return many;
        }

        private static boolean standsAhead(Town town, int one, int other) {
            if (town.till[one] != town.till[other]) {
                return town.till[one] < town.till[other];
            }
            return town.from[one] > town.from[other];
        }

        /** Takes a set of at most 12 stays as points, two of them joined if they cross. */
        private void draw(Town town, int set, int law) {
            points = 0;
            for (int stay = 0; stay < town.stays; stay++) {
                if ((set >> stay & 1) == 1 && points < MOST_POINTS) {
                    picked[points] = stay;
                    points++;
                }
            }
            for (int one = 0; one < points; one++) {
                crossed[one] = 0;
                for (int other = 0; other < points; other++) {
                    if (crosses(town, picked[one], picked[other], law)) {
                        crossed[one] |= 1 << other;
                    }
                }
            }
        }

        private int mostOfWhichAllCross() {
            return mostFrom(this, 0, (1 << points) - 1);
        }

        /** The most of which each two cross, of some of the points drawn, all from one point on. */
        private static int mostFrom(Crossings drawn, int point, int among) {
            if (point >= drawn.points || among == 0) {
                return 0;
            }
            int rest = among & ~(1 << point);
            if (rest == among) {
                return mostFrom(drawn, point + 1, among);
            }
            int with = 1 + mostFrom(drawn, point + 1, rest & drawn.crossed[point]);
            if ((rest & ~drawn.crossed[point]) == 0) {
                return with;
            }
            return Math.max(with, mostFrom(drawn, point + 1, rest));
        }

        private int fewestParts() {
            for (int many = mostOfWhichAllCross(); many < points; many++) {
                if (canBePutInto(this, many, 0, 0)) {
                    return many;
                }
            }
            return points;
        }

        /** Whether a point and those behind it find places in so many parts, some of them begun. */
        private static boolean canBePutInto(Crossings drawn, int many, int point, int begun) {
            if (point >= drawn.points) {
                return true;
            }
            // of the parts that are still empty one is as good as another
            for (int part = 0; part < many && part <= begun && part < MOST_POINTS; part++) {
                int was = part < begun ? drawn.parts[part] : 0;
                if ((was & drawn.crossed[point]) == 0) {
                    drawn.parts[part] = was | 1 << point;
                    if (canBePutInto(drawn, many, point + 1, Math.max(begun, part + 1))) {
                        return true;
                    }
                    drawn.parts[part] = was;
                }
            }
            return false;
        }
    }

    /** Plans of when the wishes begin. */
    private static final class Planner {
        private static final int WISHES = Told.MOST_WISHES;
        /** A wish can begin at most at so many quarters: its choices, 0 for the earliest. */
        private static final int CHOICES = 12;
        private static final int MOST_PLANS = 1000000;

        private int wishes = 0;
        private final int[] earliest = new int[WISHES];
        private final int[] choices = new int[WISHES];
        /** Of a wish, a choice of it and another wish the choices that go with it, as bits. */
        private final int[] fitting = new int[WISHES * CHOICES * WISHES];
        /** Whether a wish and some later one have choices that don't go together. */
        private final boolean[] tied = new boolean[WISHES];
        /** Of each level (so many wishes are chosen) and wish the choices left, as bits. */
        private final int[] open = new int[(WISHES + 1) * WISHES];
        private final int[] chosen = new int[WISHES];

        private void look(Told told) {
            wishes = Math.min(told.wishes, WISHES);
            for (int wish = 0; wish < wishes; wish++) {
                int many = told.latest[wish] - told.earliest[wish] - told.duration[wish] + 1;
                earliest[wish] = told.earliest[wish];
                choices[wish] = Math.max(0, Math.min(CHOICES, many));
                open[wish] = (1 << choices[wish]) - 1;
            }
            for (int wish = 0; wish < wishes; wish++) {
                tied[wish] = false;
                for (int other = wish + 1; other < wishes; other++) {
                    compare(told, wish, other);
                }
            }
        }

        private void compare(Told told, int wish, int other) {
            boolean apart = told.wisher[wish] != told.wisher[other] && told.wished[wish] != told.wished[other];
            for (int choice = 0; choice < choices[wish]; choice++) {
                int fit = apart ? open[other] : 0;
                for (int another = 0; another < choices[other] && !apart; another++) {
                    if (goTogether(told, wish, choice, other, another)) {
                        fit |= 1 << another;
                    }
                }
                fitting[place(wish, choice, other)] = fit;
                if (fit != open[other]) {
                    tied[wish] = true;
                }
            }
        }

        private static int place(int wish, int choice, int other) {
            return (wish * CHOICES + choice) * WISHES + other;
        }

        /** Of two wishes of one person or of one house. */
        private static boolean goTogether(Told told, int wish, int choice, int other, int another) {
            int begin = told.earliest[wish] + choice;
            int end = begin + told.duration[wish];
            int otherBegin = told.earliest[other] + another;
            int otherEnd = otherBegin + told.duration[other];
            boolean beside = end <= otherBegin || otherEnd <= begin;
            if (beside) {
                return true;
            }
            if (told.wisher[wish] == told.wisher[other]) {
                return false;
            }
            boolean within = begin <= otherBegin && otherEnd <= end;
            boolean about = otherBegin <= begin && end <= otherEnd;
            return within || about;
        }

        private int beginOf(int wish) {
            return wish >= 0 && wish < wishes ? earliest[wish] + chosen[wish] : NONE;
        }

        private boolean findFirst() {
            return findFrom(this, 0);
        }

        private static boolean findFrom(Planner plans, int wish) {
            if (wish >= plans.wishes) {
                return true;
            }
            for (int choice = 0; choice < CHOICES; choice++) {
                if (plans.isOpen(wish, choice) && plans.choose(wish, choice)) {
                    plans.chosen[wish] = choice;
                    if (findFrom(plans, wish + 1)) {
                        return true;
                    }
                }
            }
            return false;
        }

        private boolean isOpen(int wish, int choice) {
            return (open[wish * WISHES + wish] >> choice & 1) == 1;
        }

        /** Leaves to the later wishes what goes with a choice; false if one has nothing left. */
        private boolean choose(int wish, int choice) {
            for (int other = wish + 1; other < wishes; other++) {
                int left = open[wish * WISHES + other] & fitting[place(wish, choice, other)];
                if (left == 0) {
                    return false;
                }
                open[(wish + 1) * WISHES + other] = left;
            }
            return true;
        }

        private int howMany() {
            return Math.min(MOST_PLANS, countFrom(this, 0));
        }

        /** How many plans there are for a wish and the later ones, or some number above the most. */
        private static int countFrom(Planner plans, int wish) {
            if (wish >= plans.wishes) {
                return 1;
            }
            if (!plans.tied[wish]) {
                int[] open = plans.open;
                System.arraycopy(open, wish * WISHES, open, (wish + 1) * WISHES, WISHES);
                return Integer.bitCount(open[wish * WISHES + wish]) * countFrom(plans, wish + 1);
            }
            if (wish == plans.wishes - 2) {
                return plans.countLastTwo(wish);
            }
            int together = 0;
            for (int choice = 0; choice < CHOICES && together < MOST_PLANS; choice++) {
                if (plans.isOpen(wish, choice) && plans.choose(wish, choice)) {
                    together += countFrom(plans, wish + 1);
                }
            }
            return together;
        }

        /** Most of the counting is done here, so it goes without a call for each choice. */
        private int countLastTwo(int wish) {
            int first = open[wish * WISHES + wish];
            int second = open[wish * WISHES + wish + 1];
            int together = 0;
            for (int choice = 0; choice < CHOICES; choice++) {
                if ((first >> choice & 1) == 1) {
                    together += Integer.bitCount(second & fitting[place(wish, choice, wish + 1)]);
                }
            }
            return together;
        }
    }

    /** Who needs whom to go, and the rings of such people. */
    private static final class Rings {
        /** Of each person those he needs, as bits. */
        private final int[] needs = new int[PEOPLE];

        private void look(Town town) {
            for (int person = 0; person < PEOPLE; person++) {
                needs[person] = 0;
                int house = town.houseOf[person];
                if (town.isHouse(house)) {
                    needs[person] = aheadOf(town, person, house);
                    int awaited = town.waitsFor[person];
                    if (isPerson(awaited) && town.houseOf[awaited] != house) {
                        needs[person] |= 1 << awaited;
                    }
                }
            }
        }

        /** Those in his house who must go ahead of somebody. */
        private static int aheadOf(Town town, int person, int house) {
            if (town.law[house] == LAW_FREE) {
                return 0;
            }
            int place = town.placeOf(person);
            boolean last = town.law[house] == LAW_LAST;
            int low = last ? place + 1 : 0;
            int high = last ? town.inside[house] : place;
            int set = 0;
            for (int i = low; i < high; i++) {
                set |= 1 << town.rows[house * PEOPLE + i];
            }
            return set;
        }

        /** How many people the shortest ring has; 0: there is none. */
        private int shortest() {
            int least = 0;
            for (int person = 0; person < PEOPLE; person++) {
                int length = ringThrough(person);
                if (length > 0 && (least == 0 || length < least)) {
                    least = length;
                }
            }
            return least;
        }

        private int ringThrough(int person) {
            int reached = needs[person];
            for (int length = 1; length <= PEOPLE; length++) {
                if ((reached >> person & 1) == 1) {
                    return length;
                }
                int next = reached;
                for (int other = 0; other < PEOPLE; other++) {
                    if ((reached >> other & 1) == 1) {
                        next |= needs[other];
                    }
                }
                if (next == reached) {
                    return 0;
                }
                reached = next;
            }
            return 0;
        }

        private int stuck() {
            return stuckAmong((1 << PEOPLE) - 1);
        }

        /** Who is left when those who need nobody (any more) go, again and again. */
        private int stuckAmong(int people) {
            int left = people;
            for (int i = 0; i <= PEOPLE && left != 0; i++) {
                int next = left;
                for (int person = 0; person < PEOPLE; person++) {
                    if ((needs[person] & next) == 0) {
                        next &= ~(1 << person);
                    }
                }
                if (next == left) {
                    break;
                }
                left = next;
            }
            return left;
        }

        /** The fewest people without whom there is no ring, of several sets the least. */
        private int undone() {
            int stuck = stuck();
            int best = stuck;
            int fewest = Integer.bitCount(stuck);
            for (int set = 0; set < stuck; set++) {
                if ((set & ~stuck) == 0 && Integer.bitCount(set) < fewest && stuckAmong(stuck & ~set) == 0) {
                    best = set;
                    fewest = Integer.bitCount(set);
                }
            }
            return best;
        }
    }

    /** Who must have come when, whom to ask so that one is kept, whom to let in at a knock. */
    private static final class Guesses {
        private static final int SETS = 1 << Told.MOST_GONE;

        /** Of each place in the row of those who went the places that came ahead, as bits. */
        private final int[] ahead = new int[Told.MOST_GONE];
        /** Of each set of those who have come in how many orders the others can come. */
        private final int[] ways = new int[SETS];
        private final int[] values = new int[BEHIND_ALL + 1];
        private int gone = 0;

        private void countOrders(Told told) {
            gone = told.gone;
            Arrays.fill(ahead, 0);
            for (int fact = 0; fact < told.facts; fact++) {
                int one = told.placeInRow(told.earlier[fact]);
                int other = told.placeInRow(told.later[fact]);
                if (one != NONE && other != NONE) {
                    ahead[other] |= 1 << one;
                }
            }
            int all = (1 << gone) - 1;
            ways[all] = 1;
            for (int come = all - 1; come >= 0; come--) {
                ways[come] = 0;
                for (int next = 0; next < gone; next++) {
                    if (mayComeNext(come, next)) {
                        ways[come] += ways[come | 1 << next];
                    }
                }
            }
        }

        private int howManyOrders() {
            return ways[0];
        }

        /**
         * Of those who have come the first in the row are gone already, as far as they all have
         * come; whoever of the others is in must go behind who comes next.
         */
        private boolean mayComeNext(int come, int next) {
            int bit = 1 << next;
            int inside = come & (come + 1);
            int last = inside & -inside;
            return (come & bit) == 0 && (last == 0 || bit < last) && (ahead[next] & ~come) == 0;
        }

        /** Who comes k-th in the first of the orders, of which there must be one. */
        private int inFirstOrder(Told told, int k) {
            int come = 0;
            int person = NONE;
            for (int i = 0; i <= k && i < gone; i++) {
                int place = firstToCome(told, come);
                if (place == NONE) {
                    return NONE;
                }
                person = told.row[place];
                come |= 1 << place;
            }
            return person;
        }

        private int firstToCome(Told told, int come) {
            int best = NONE;
            for (int next = 0; next < gone; next++) {
                if (mayComeNext(come, next) && ways[come | 1 << next] > 0
                        && (best == NONE || told.row[next] < told.row[best])) {
                    best = next;
                }
            }
            return best;
        }

        /** Asking who stays longest of those who still find him there; NONE: it can't be. */
        private static int fewestGuests(Told told, int goes, int till) {
            int there = goes;
            int many = 0;
            for (int i = 0; i <= told.guests && there < till; i++) {
                int longest = there;
                for (int guest = 0; guest < told.guests; guest++) {
                    if (told.comes[guest] < there) {
                        longest = Math.max(longest, told.goes[guest]);
                    }
                }
                if (longest == there) {
                    return NONE;
                }
                there = longest;
                many++;
            }
            return many;
        }

        private static int leastSetOfGuests(Told told, int goes, int till, int many) {
            for (int set = 0; set < 1 << told.guests; set++) {
                if (Integer.bitCount(set) == many && thereTill(told, goes, set) >= till) {
                    return set;
                }
            }
            return NONE;
        }

        /** Till when he is there if a set of guests is asked. */
        private static int thereTill(Told told, int goes, int set) {
            int there = goes;
            for (int i = 0; i < told.guests; i++) {
                int was = there;
                for (int guest = 0; guest < told.guests; guest++) {
                    if ((set >> guest & 1) == 1 && told.comes[guest] < there) {
                        there = Math.max(there, told.goes[guest]);
                    }
                }
                if (there == was) {
                    break;
                }
            }
            return there;
        }

        private void valueKnocks(int chance, int stays, int worth, int end) {
            Arrays.fill(values, 0);
            for (int quarter = Math.min(end, BEHIND_ALL) - 1; quarter >= 0; quarter--) {
                int not = values[quarter + 1];
                int better = Math.max(not, lettingIn(stays, worth, end, quarter));
                values[quarter] = (chance * better + (16 - chance) * not) / 16;
            }
        }

        /** The value of letting in at a quarter; NONE: he may not be let in. */
        private int lettingIn(int stays, int worth, int end, int quarter) {
            return quarter + stays <= end ? worth + valueAt(quarter + stays) : NONE;
        }

        private int valueAt(int quarter) {
            return quarter >= 0 && quarter <= BEHIND_ALL ? values[quarter] : 0;
        }
    }
}

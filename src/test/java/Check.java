/** Counts what is as due and tells what is not. */
final class Check {
    private static final int MOST_TOLD = 20;
    private static int passed = 0;
    private static int failed = 0;
    private static String sentence = "";

    private Check() { }

    /** Of which sentence of the document the next checks are. */
    static void about(String what) {
        sentence = what;
    }

    static void is(String what, long got, long want) {
        if (got == want) {
            passed++;
        } else {
            failed++;
            if (failed <= MOST_TOLD) {
                tellWrong(what + " answered " + got + ", due is " + want);
            }
        }
    }

    private static void tellWrong(String what) {
        System.out.println(what);
        if (!sentence.isEmpty()) {
            System.out.println("    (" + sentence + ")");
        }
    }

    static void is(String what, boolean got, boolean want) {
        is(what, got ? 1 : 0, want ? 1 : 0);
    }

    static int failures() {
        return failed;
    }

    /** Feeds a text and cuts off what fills up its last twenty bytes. */
    static void tell(AfterTheLast x, String text) {
        for (int at = 0; at < text.length(); at += 20) {
            int[] n = new int[5];
            for (int i = 0; i < 20; i++) {
                int sign = at + i < text.length() ? text.charAt(at + i) : 0;
                n[i / 4] = n[i / 4] << 8 | sign;
            }
            x.feed(n[0], n[1], n[2], n[3], n[4]);
        }
        x.end(text.length());
    }

    /** A text in which ^ marks a place has a fault there. */
    static void badStreet(String marked, int kind) {
        String text = marked.replace("^", "");
        is("street '" + marked + "'", street(new AfterTheLast(), text), fault(marked.indexOf('^'), kind));
    }

    static void badRule(String marked, int kind) {
        String text = marked.replace("^", "");
        is("rule '" + marked + "'", rule(new AfterTheLast(), text), fault(marked.indexOf('^'), kind));
    }

    static void goodStreet(String text, int houses) {
        is("street '" + text + "'", street(new AfterTheLast(), text), houses);
    }

    static void goodRule(String text) {
        is("rule '" + text + "'", rule(new AfterTheLast(), text), 0);
    }

    static int street(AfterTheLast x, String text) {
        tell(x, text);
        return x.street();
    }

    static int rule(AfterTheLast x, String text) {
        tell(x, text);
        return x.rule();
    }

    /** A new object with a street. */
    static AfterTheLast with(String street) {
        AfterTheLast x = new AfterTheLast();
        int houses = street(x, street);
        if (houses < 0) {
            is("street " + street, houses, 0);
        }
        return x;
    }

    /** What street and rule answer for a fault. */
    static int fault(int place, int kind) {
        return -2 - (1 + 8 * place + kind);
    }

    /** All that can be asked without arguments that change anything, as one text. */
    static String state(AfterTheLast x) {
        StringBuilder b = new StringBuilder();
        for (int w = 0; w < 14; w++) b.append(x.count(w)).append(' ');
        for (int h = 0; h < 6; h++) for (int w = 0; w < 6; w++) b.append(x.house(h, w)).append(' ');
        for (int s = 0; s < 18; s++) for (int w = 0; w < 6; w++) b.append(x.stay(s, w)).append(' ');
        for (int p = 0; p < 12; p++) for (int w = 0; w < 6; w++) b.append(x.person(p, w)).append(' ');
        for (int w = 0; w < 7; w++) b.append(x.plan(w)).append(' ');
        for (int k = -1; k < 8; k++) b.append(x.orders(k)).append(' ');
        return b.toString();
    }

    /** That nothing is otherwise than it was. */
    static void same(String what, AfterTheLast x, String was) {
        boolean same = state(x).equals(was);
        is(what + " (nothing happened)", same, true);
    }

    static void done() {
        System.out.println(passed + " passed, " + failed + " failed");
        if (failed != 0) {
            System.exit(1);
        }
    }
}

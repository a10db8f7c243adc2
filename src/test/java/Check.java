/** What all tests share: answers against those that are due, and texts written into an object. */
final class Check {
    private final String name;
    private String sentence = "";
    private int tests;
    private int wrong;

    Check(String name) {
        this.name = name;
    }

    /** One sentence of the document, with the calls that would show it broken. */
    void test(String told, Runnable calls) {
        sentence = told + ": ";
        tests++;
        try {
            calls.run();
        } catch (RuntimeException e) {
            fails("threw " + e);
        }
        sentence = "";
    }

    void due(String call, long got, long want) {
        if (got != want) {
            fails(call + " answered " + got + ", due is " + want);
        }
    }

    void holds(String what, boolean truth) {
        due(what, truth ? 1 : 0, 1);
    }

    void same(String what, String got, String want) {
        if (!got.equals(want)) {
            fails(what + " told\n  " + got + "\ndue is\n  " + want);
        }
    }

    private void fails(String how) {
        wrong++;
        System.out.println(name + ": " + sentence + how);
    }

    void end() {
        String ran = name + (tests == 0 ? ": " : ", " + tests + " tests: ");
        System.out.println(ran + (wrong == 0 ? "all answers are as due" : wrong + " answers are not as due"));
        if (wrong != 0) {
            System.exit(1);
        }
    }

    /** Writes a text in pieces of eight bytes at most. */
    static void write(ShadowCount s, String text) {
        for (int from = 0; from < text.length(); from += 8) {
            String piece = text.substring(from, Math.min(text.length(), from + 8));
            s.write(piece.length(), bytes(piece));
        }
    }

    /** Signs as the number that `write` takes, the first one highest. */
    static long bytes(String signs) {
        long v = 0;
        for (int i = 0; i < signs.length(); i++) {
            v = v << 8 | signs.charAt(i);
        }
        return v;
    }

    static void rewrite(ShadowCount s, String text) {
        s.wipe();
        write(s, text);
    }

    /** A new object whose place is the text. */
    static ShadowCount placed(String text) {
        ShadowCount s = new ShadowCount();
        write(s, text);
        if (s.place() < 0) {
            throw new IllegalStateException("no place: " + text);
        }
        return s;
    }

    /** A new object with sights, told as minute and cells in turn. */
    static ShadowCount seen(int... told) {
        ShadowCount s = new ShadowCount();
        for (int i = 0; i < told.length; i += 2) {
            s.sight(told[i], told[i + 1]);
        }
        return s;
    }

    /** Kind, x and y of every body, in the order of their numbers. */
    static String bodies(ShadowCount s) {
        StringBuilder all = new StringBuilder();
        int number = s.count(1);
        for (int body = 0; body < number; body++) {
            all.append("mcksat".charAt(s.body(body, 0))).append(s.body(body, 1)).append(s.body(body, 2)).append(' ');
        }
        return all.toString().trim();
    }
}

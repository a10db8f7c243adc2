/** What all tests share: answers against those that are due, and texts written into an object. */
final class Check {
    private int wrong;

    void due(String call, long got, long want) {
        if (got != want) {
            wrong++;
            System.out.println(call + " answered " + got + ", due is " + want);
        }
    }

    void holds(String what, boolean truth) {
        due(what, truth ? 1 : 0, 1);
    }

    void end(String name) {
        System.out.println(name + ": " + (wrong == 0 ? "all answers are as due" : wrong + " answers are not as due"));
        if (wrong != 0) {
            System.exit(1);
        }
    }

    /** Writes a text in pieces of eight bytes at most. */
    static void write(ShadowCount s, String text) {
        for (int from = 0; from < text.length(); from += 8) {
            String piece = text.substring(from, Math.min(text.length(), from + 8));
            long v = 0;
            for (int i = 0; i < piece.length(); i++) {
                v = v << 8 | piece.charAt(i);
            }
            s.write(piece.length(), v);
        }
    }

    static void rewrite(ShadowCount s, String text) {
        s.wipe();
        write(s, text);
    }

    /** A new object whose place is the text. */
    static ShadowCount placed(String text) {
        ShadowCount s = new ShadowCount();
        write(s, text);
        if (s.place() < 0) {
            throw new IllegalStateException("no place: " + text);
        }
        return s;
    }
}

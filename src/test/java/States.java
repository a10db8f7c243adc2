/** Objects in the middle of things, for tests of what a call leaves as it is. */
final class States {
    static final String TEXT_OF_RICH = "GBk42H1122L3aO0123";

    private States() {
    }

    /** Text, bodies, hills, cliffs, clouds, acts, sights and a slot, the text another place than the field. */
    static void makeRich(ShadowCount s) {
        Check.write(s, "GBm00Bc31Bk22Bs53Ba64Bt85H0905H2312L21O4523O670b");
        s.place();
        s.sight(10, 14);
        s.keep(0);
        s.put(1, 9, 0);
        s.move(2, 7, 2);
        s.take(0);
        s.sight(9, 2);
        Check.rewrite(s, TEXT_OF_RICH);
    }

    /** The same with a text that is not at its end. */
    static void makeOpen(ShadowCount s) {
        makeRich(s);
        Check.rewrite(s, "GBt95Bm1");
    }

    /** As much of everything as there may be. */
    static void makeFull(ShadowCount s) {
        Check.write(s, "GBm00Bc11Bk22Bs33Ba44Bt55Bm65Bc75H0905H0302H4915L06L5fO1123O4423O6623O8823");
        s.place();
        for (int i = 0; i < 6; i++) {
            s.sight(8 + i % 2, 0);
        }
        s.keep(0);
        for (int i = 0; i < 20; i++) {
            s.move(i % 8, i % 10, 4 - i / 10);
        }
        s.keep(1);
        Check.write(s, "L11L22L33L44L55L66");
    }
}

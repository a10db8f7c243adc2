/** Promises 12 to 16. */
public final class ShadowsTest {
    private static final Check check = new Check();
    private static final int OUTSIDE = -2, UNKNOWN = -1, NONE = -9;

    public static void main(String[] args) {
        shadow();
        dark();
        cliffs();
        clouds();
        runs();
        run();
        alone();
        check.end("ShadowsTest");
    }

    private static void shadow() {
        ShadowCount s = Check.placed("GBm00Bc10Bk20Bs30Ba40Bt50");
        int[] tall = {12, 10, 9, 7, 6, 4, 3, 1, 0, 1, 3, 4, 6, 7, 9, 10};
        int[] small = {6, 5, 4, 3, 3, 2, 1, 0, 0, 0, 1, 2, 3, 3, 4, 5};
        int[] cart = {8, 7, 6, 5, 4, 3, 2, 1, 0, 1, 2, 3, 4, 5, 6, 7};
        int[][] due = {tall, small, small, tall, cart, tall};
        for (int body = 0; body < 6; body++) {
            for (int minute = 0; minute < 16; minute++) {
                check.due("shadow(" + body + ", " + minute + ")", s.shadow(body, minute), due[body][minute]);
            }
        }
        check.due("shadow(6, 0)", s.shadow(6, 0), UNKNOWN);
        check.due("shadow(-1, 16)", s.shadow(-1, 16), UNKNOWN);
        check.due("shadow(0, 16)", s.shadow(0, 16), OUTSIDE);
        check.due("shadow(0, -1)", s.shadow(0, -1), OUTSIDE);
        check.due("shadow(0, MIN)", s.shadow(0, Integer.MIN_VALUE), OUTSIDE);
    }

    private static void dark() {
        ShadowCount s = Check.placed("GBm50Bc51");
        check.due("a man, to the west", s.dark(6, 0), 0b0000011100);
        check.due("a man, to the east", s.dark(10, 0), 0b0111000000);
        check.due("a child, to the west", s.dark(6, 1), 0b0000010000);
        check.due("a child, to the east", s.dark(10, 1), 0b0001000000);
        check.due("to the west end", s.dark(0, 0), 0b0000011111);
        check.due("to the east end", s.dark(15, 0), 0b1111000000);
        check.due("at 8", s.dark(8, 0), 0);
        check.due("a child at 7", s.dark(7, 1), 0);
        check.due("another row", s.dark(0, 2), 0);
        s.put(5, 7, 0);
        check.due("both, and the cell of the first", s.dark(6, 0), 0b0001111100);
        ShadowCount ends = Check.placed("GBm05Bm95");
        check.due("from both ends, ahead", ends.dark(7, 5), 0b0100000000);
        check.due("from both ends, behind", ends.dark(9, 5), 0b0000000010);
        check.due("all but the last", ends.dark(0, 5), 511);
        check.due("all but the first", ends.dark(15, 5), 1022);
        check.due("dark(16, 0)", s.dark(16, 0), OUTSIDE);
        check.due("dark(-1, 0)", s.dark(-1, 0), OUTSIDE);
        check.due("dark(0, 6)", s.dark(0, 6), OUTSIDE);
        check.due("dark(0, -1)", s.dark(0, -1), OUTSIDE);
    }

    private static void cliffs() {
        ShadowCount s = Check.placed("GBm90Bm91Bm92L05L10");
        check.due("ahead of the cliff's minute", s.dark(4, 0), 0);
        check.due("at the cliff's minute", s.dark(5, 0), 0b0111100000);
        check.due("behind it", s.dark(6, 0), 0b0111000000);
        check.due("long ahead of it, where the shadow is longest", s.dark(0, 0), 0);
        check.due("a cliff of minute 0", s.dark(0, 1), 511);
        check.due("a row without a cliff", s.dark(0, 2), 511);
        check.due("both are cliffs", s.count(7), 3);
    }

    private static void clouds() {
        ShadowCount s = Check.placed("GBm90Bm05O3546O7715");
        check.due("ahead of the first cloud", s.dark(3, 0), 0b0101111100);
        check.due("both, at the first one's begin", s.dark(4, 0), 0b0101000000);
        check.due("ahead of both", s.dark(0, 0), 511);
        check.due("at its end", s.dark(6, 0), 0b0111000000);
        check.due("it lies over all rows", s.dark(6, 5), 0);
        check.due("behind it", s.dark(12, 5), 0b0001111110);
        ShadowCount two = Check.placed("GBm90O0400O3800");
        check.due("clouds over like columns", two.dark(0, 0), 0);
        check.due("only at that minute", two.dark(1, 0), 511);
    }

    private static void runs() {
        ShadowCount s = Check.placed("GBm20Bm50Bm90Bm31H0905H3401H9955");
        // at 7: row 0 has 1, 4, 8; row 1 has 2
        check.due("runs(0, 7)", s.runs(0, 7), 4);
        check.due("runs(1, 7)", s.runs(1, 7), 1);
        check.due("runs(2, 7)", s.runs(2, 7), 0);
        check.due("runs(0, 8)", s.runs(0, 8), 0);
        // at 6: row 0 has 0 1, 2 3 4, 6 7 8; row 1 has 0 1 2
        check.due("runs(0, 6)", s.runs(0, 6), 3);
        check.due("runs(0, 0)", s.runs(0, 0), 2);
        check.due("runs(3, 0)", s.runs(3, 0), UNKNOWN);
        check.due("runs(-1, 16)", s.runs(-1, 16), UNKNOWN);
        check.due("runs(0, 16)", s.runs(0, 16), OUTSIDE);
        check.due("runs(0, -1)", s.runs(0, -1), OUTSIDE);
        ShadowCount many = Check.placed("GBm10Bm30Bm50Bm70Bm90Bm15Bm35Bm55H0905");
        check.due("five runs in a row", many.runs(0, 7), 8);
    }

    private static void one(ShadowCount s, int hill, int minute, int i, int[] due) {
        for (int what = 0; what < 3; what++) {
            check.due("run(" + hill + ", " + minute + ", " + i + ", " + what + ")", s.run(hill, minute, i, what), due[what]);
        }
    }

    private static void run() {
        ShadowCount s = Check.placed("GBm20Bm60Bm90Bm31H0905H3801H4415");
        // at 6: row 0 has 0 1, 3 4 5, 6 7 8; row 1 has 0 1 2
        one(s, 0, 6, 0, new int[] {0, 0, 2});
        one(s, 0, 6, 1, new int[] {0, 3, 6});
        one(s, 0, 6, 2, new int[] {1, 0, 3});
        one(s, 0, 6, 3, new int[] {NONE, NONE, NONE});
        one(s, 1, 6, 0, new int[] {0, 3, 6});
        one(s, 1, 6, 1, new int[] {NONE, NONE, NONE});
        // at 0: row 0 has 0 to 8, of which the hill sees 3 to 8
        one(s, 1, 0, 0, new int[] {0, 3, 6});
        // at 12: row 0 has 3 to 9, row 1 has 4 to 9, of which the last hill sees only 4 in row 1
        one(s, 1, 12, 0, new int[] {0, 3, 6});
        one(s, 1, 12, 1, new int[] {1, 4, 5});
        one(s, 2, 12, 0, new int[] {1, 4, 1});
        one(s, 0, 12, 1, new int[] {1, 4, 6});
        check.due("i below 0", s.run(0, 6, -1, 0), NONE);
        check.due("i = MIN", s.run(0, 6, Integer.MIN_VALUE, 0), NONE);
        check.due("i = MAX", s.run(0, 6, Integer.MAX_VALUE, 0), NONE);
        check.due("run(3, 0, 0, 0)", s.run(3, 0, 0, 0), UNKNOWN);
        check.due("run(-1, 16, 0, 3)", s.run(-1, 16, 0, 3), UNKNOWN);
        check.due("run(0, 16, 0, 0)", s.run(0, 16, 0, 0), OUTSIDE);
        check.due("run(0, -1, 0, 0)", s.run(0, -1, 0, 0), OUTSIDE);
        check.due("run(0, 6, 0, 3)", s.run(0, 6, 0, 3), OUTSIDE);
        check.due("run(0, 6, 0, -1)", s.run(0, 6, 0, -1), OUTSIDE);
        check.due("refused, though there are not so many", s.run(0, 6, 99, 3), OUTSIDE);
    }

    private static void alone() {
        ShadowCount s = Check.placed("GBm20Bm60Bc90Bm31");
        // at 10: 3 4 5, 7 8 9, none, 4 5 6
        check.due("a shadow beside the field is none", s.alone(10), 3);
        // at 7: 1, 5, none, 2
        check.due("a child at 7 has none", s.alone(7), 3);
        // at 0: 0 1, 0 to 5, 3 to 8, 0 to 2 in row 1
        check.due("all of row 0 share", s.alone(0), 1);
        // at 5: 0 1, 2 to 5, 7 8, 0 to 2 in row 1
        check.due("none share", s.alone(5), 4);
        check.due("at 8", s.alone(8), 0);
        check.due("alone(16)", s.alone(16), OUTSIDE);
        check.due("alone(-1)", s.alone(-1), OUTSIDE);
        // at 5 they reach 1 to 4 and 4 to 7: what they share lies under the cloud
        check.due("shared, but not dark", Check.placed("GBm50Bm80O4400").alone(5), 0);
        check.due("shared under a cloud", Check.placed("GBm50Bm80O4455").alone(5), 2);
        check.due("under a cloud altogether", Check.placed("GBm50Bm80O0955").alone(5), 0);
        check.due("no sun", Check.placed("GBm50L06").alone(5), 0);
        check.due("statues, too", Check.placed("GBs50Bs51").alone(5), 2);
        check.due("columns alike in other rows", Check.placed("GBm50Bm51").alone(5), 2);
    }
}

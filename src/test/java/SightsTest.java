/** Promises 20 to 25; the counts are also gone through row by row in RandomTest. */
public final class SightsTest {
    private static final Check check = new Check();
    private static final int OUTSIDE = -2, FULL = -4, NONE = -9;

    public static void main(String[] args) {
        sight();
        unsee();
        fits();
        people();
        sure();
        next();
        theFieldDoesNotMatter();
        check.end("SightsTest");
    }

    /** A new object with sights, told as minute and cells in turn. */
    private static ShadowCount seen(int... told) {
        ShadowCount s = new ShadowCount();
        for (int i = 0; i < told.length; i += 2) {
            s.sight(told[i], told[i + 1]);
        }
        return s;
    }

    private static void sight() {
        ShadowCount s = new ShadowCount();
        check.due("sight(16, 0)", s.sight(16, 0), OUTSIDE);
        check.due("sight(-1, 0)", s.sight(-1, 0), OUTSIDE);
        check.due("sight(0, 1024)", s.sight(0, 1024), OUTSIDE);
        check.due("sight(0, -1)", s.sight(0, -1), OUTSIDE);
        check.due("sight(0, MIN)", s.sight(0, Integer.MIN_VALUE), OUTSIDE);
        check.due("no sights", s.count(4), 0);
        check.due("sight(15, 1023)", s.sight(15, 1023), 1);
        for (int i = 2; i <= 6; i++) {
            check.due("sight(0, 0)", s.sight(0, 0), i);
        }
        check.due("the seventh", s.sight(0, 0), FULL);
        check.due("the seventh, outside", s.sight(16, 0), OUTSIDE);
        check.due("six", s.count(4), 6);
    }

    private static void unsee() {
        ShadowCount s = seen(10, 14, 9, 2);
        check.due("unsee", s.unsee(), 2);
        check.due("unsee again", s.unsee(), 0);
        check.due("fits", s.fits(), 59049);
        check.due("sight", s.sight(15, 0), 1);
        check.due("only the new one", s.fits(), 3);
    }

    private static void fits() {
        check.due("none were seen", seen().fits(), 59049);
        check.due("at 8 nothing is dark", seen(8, 0).fits(), 59049);
        check.due("at 8 something is dark", seen(8, 512).fits(), 0);
        check.due("at 0 nothing is dark: one may stand in cell 0", seen(0, 0).fits(), 3);
        check.due("at 15 nothing is dark: one may stand in cell 9", seen(15, 0).fits(), 3);
        check.due("neither", seen(0, 0, 15, 0).fits(), 1);
        // at 7 children throw none: a man in cell 0 throws none in the field
        check.due("at 7 nothing is dark", seen(7, 0).fits(), 3 * 512);
        check.due("at 9 nothing is dark", seen(9, 0).fits(), 3 * 512);
        check.due("at 7 and 9", seen(7, 0, 9, 0).fits(), 1024);
        check.due("at 9 all that can be", seen(9, 1022).fits(), 3);
        check.due("the first cell is never dark behind 8", seen(9, 1).fits(), 0);
        check.due("two that do not agree", seen(9, 2, 9, 4).fits(), 0);
        check.due("the same twice", seen(9, 2, 9, 2).fits(), seen(9, 2).fits());
        check.due("a man in cell 0, children, one in cell 9", seen(9, 2).fits(), 256 * 3);
        // at 10 a man in cell 0 makes 1 to 3 dark, or children in 0 to 2; cell 9 is free
        check.due("a man in cell 0, or children", seen(10, 14).fits(), (4 + 1) * 3);
        // only a man may stand in cell 2, children in 3 and 4; or children in 2, 3, 4
        check.due("the same further east", seen(10, 0b111000).fits(), (4 + 1) * 3);
        // one in cell 6: a man, and all may stand east of him; or a child, a man or child in 7, in 8 if need be
        check.due("the last three cells", seen(10, 0b1110000000).fits(), 27 + 9 + 6);
        check.due("six sights", seen(0, 0, 1, 0, 2, 0, 3, 0, 4, 0, 5, 0).fits(), 3);
        check.due("six sights, the first tells", seen(8, 1, 0, 0, 0, 0, 0, 0, 0, 0, 0, 0).fits(), 0);
        check.due("six sights, the last tells", seen(0, 0, 0, 0, 0, 0, 0, 0, 0, 0, 8, 1).fits(), 0);
        check.due("the last cells of six", seen(15, 512, 15, 512, 15, 512, 15, 512, 15, 512, 15, 512).fits(), 6);
    }

    private static void people() {
        check.due("fewest of all", seen().people(false), 0);
        check.due("most of all", seen().people(true), 10);
        check.due("none fits", seen(8, 1).people(false), NONE);
        check.due("none fits", seen(8, 1).people(true), NONE);
        check.due("one may be there", seen(0, 0).people(false), 0);
        check.due("one may be there", seen(0, 0).people(true), 1);
        check.due("nobody", seen(0, 0, 15, 0).people(true), 0);
        // at 12 a man darkens 6 cells: all of 1 to 9 need two
        check.due("two men", seen(12, 1022).people(false), 2);
        check.due("ten", seen(12, 1022).people(true), 10);
        // at 10 cells 1 to 3 and 5 to 7 need two men, nothing else reaches so far
        check.due("fewest of two runs", seen(10, 0b0011101110).people(false), 2);
        check.due("one man for the last three cells", seen(10, 0b1110000000).people(false), 1);
        check.due("four for the last three cells", seen(10, 0b1110000000).people(true), 4);
        // at 12 a child in 0 makes 1 to 3 dark, at 9 a man would be seen: three children for 1 to 9
        check.due("three children", seen(12, 1022, 9, 0).people(false), 3);
        check.due("children are counted", seen(10, 2).people(false), 1);
        check.due("child and the last cell", seen(10, 2).people(true), 2);
    }

    private static void sure() {
        check.due("nothing was seen", seen().sure(), 0);
        check.due("none fits", seen(8, 1).sure(), NONE);
        check.due("nobody surely", seen(0, 0).sure(), 0);
        check.due("a child in cell 0", seen(10, 2).sure(), 1);
        check.due("one ahead of each run", seen(10, 0b0011101110).sure(), 0b0000010001);
        check.due("one behind each run", seen(6, 0b0111001110).sure(), 0b1000010000);
        check.due("from both sides", seen(4, 511, 12, 1022).sure(), 513);
        check.due("men in all but the last", seen(9, 1022).sure(), 511);
    }

    private static void next() {
        check.due("none fits", seen(8, 1).next(), NONE);
        check.due("only one fit: the first minute", seen(0, 0, 15, 0).next(), 0);
        // man, child or nobody in cell 0: from 9 on men differ, from 10 on all three
        check.due("cell 0 is to tell", seen(0, 0).next(), 10);
        // the same in cell 9: 0 tells all three apart
        check.due("cell 9 is to tell", seen(15, 0).next(), 0);
        // man or child in cell 0, children or nobody in 1 and 2, or children in all three; and cell 9
        check.due("a row of three cells was dark", seen(10, 14).next(), 6);
        // child or nobody in each cell: 6 shows cells 0 to 8 as they are, and so does 10
        check.due("children", seen(7, 0, 9, 0).next(), 6);
    }

    private static void theFieldDoesNotMatter() {
        ShadowCount s = Check.placed("GBm00L0fO090f");
        check.due("fits on a field", s.fits(), 59049);
        s.sight(9, 1022);
        check.due("fits under cliffs and clouds", s.fits(), 3);
        check.due("sights make nothing dark", s.dark(9, 1), 0);
        check.due("asking changes nothing", s.count(4), 1);
    }
}

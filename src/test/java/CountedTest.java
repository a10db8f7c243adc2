/** Promises 17 to 19. */
public final class CountedTest {
    private static final Check check = new Check();
    private static final int OUTSIDE = -2, UNKNOWN = -1, NONE = -9;

    public static void main(String[] args) {
        counted();
        halvesGoDown();
        best();
        hide();
        hideBehindCliffsAndClouds();
        hideNowhere();
        check.end("CountedTest");
    }

    private static void counted() {
        ShadowCount s = Check.placed("GBm40Bc91H0905H0300H5501");
        check.due("one run each", s.counted(0, 6), 2);
        check.due("a hill that sees one", s.counted(1, 6), 1);
        check.due("a hill that sees none", s.counted(2, 6), 0);
        check.due("at 8", s.counted(0, 8), 0);
        check.due("counted(3, 0)", s.counted(3, 0), UNKNOWN);
        check.due("counted(-1, 16)", s.counted(-1, 16), UNKNOWN);
        check.due("counted(0, 16)", s.counted(0, 16), OUTSIDE);
        check.due("counted(0, -1)", s.counted(0, -1), OUTSIDE);
        // at 7 a man's shadow is 1 long: a run of 5 is 5
        check.due("a run of five at 7", Check.placed("GBm10Bm20Bm30Bm40Bm50H0900").counted(0, 7), 5);
        // a hill that sees columns 1 to 3 sees a run of 3
        check.due("only what the hill sees", Check.placed("GBm10Bm20Bm30Bm40Bm50H1300").counted(0, 7), 3);
        check.due("statues are taken for people", Check.placed("GBs40H0900").counted(0, 6), 1);
    }

    /** A row of people whose shadows make one run; how long it is, and what it is counted as. */
    private static void rule(String bodies, int minute, int length, int want) {
        ShadowCount s = Check.placed("G" + bodies + "H0905");
        check.due("runs of " + bodies, s.runs(0, minute), 1);
        check.due("length of " + bodies, s.run(0, minute, 0, 2), length);
        check.due("counted of " + bodies + " at " + minute, s.counted(0, minute), want);
    }

    private static void halvesGoDown() {
        rule("Bm60Bm30", 6, 6, 2);
        rule("Bm50Bm30", 6, 5, 2);
        rule("Bm40Bm30", 6, 4, 1);
        rule("Bm30", 6, 3, 1);
        rule("Bc30", 6, 1, 1);
        rule("Bm90Bm60Bm30", 6, 9, 3);
        rule("Bm80Bm60Bm30", 6, 8, 3);
        rule("Bm70Bm60Bm30", 6, 7, 2);
        rule("Bm60Bm40", 5, 6, 1);
        rule("Bm70Bm40", 5, 7, 2);
        rule("Bm90Bm60Bm30", 5, 9, 2);
        rule("Bm30Bm00", 12, 9, 1);
        rule("Bm90Bm60", 4, 9, 1);
        rule("Bm10Bm00", 12, 7, 1);
        rule("Bm00Bm10", 13, 8, 1);
        rule("Bm00", 15, 9, 1);
    }

    private static void best() {
        ShadowCount s = Check.placed("GBm20Bm50Bm80H0900H9955H0905");
        // up to 6 cells 0 to 7 are one run, of which 6 is the first minute to count three
        check.due("best(0)", s.best(0), 6);
        check.due("counted at 5 is two", s.counted(0, 5), 2);
        check.due("a hill that sees nothing", s.best(1), 0);
        check.due("best(3)", s.best(3), UNKNOWN);
        check.due("best(-1)", s.best(-1), UNKNOWN);
        ShadowCount none = Check.placed("GBs20H0900");
        check.due("nobody is there: at 8", none.best(0), 8);
        ShadowCount carts = Check.placed("GBa90Ba40H0900");
        int nearest = 0;
        for (int minute = 15; minute >= 0; minute--) {
            if (Math.abs(carts.counted(0, minute) - 4) <= Math.abs(carts.counted(0, nearest) - 4)) {
                nearest = minute;
            }
        }
        check.due("of carts", carts.best(0), nearest);
        check.due("nobody, nothing", Check.placed("GH0905").best(0), 0);
        check.due("above as near as below: the first", Check.placed("GBs20Bm50H0900").best(0), 0);
        check.due("clouds but at 11", Check.placed("GBm00H0905O090aO09cf").best(0), 11);
    }

    private static void hide() {
        ShadowCount s = Check.placed("GBm00H0905");
        check.due("at 8 beside the body", s.hide(8), 1);
        check.due("ahead of 8 at the west end, the next row", s.hide(0), 10);
        check.due("behind 8 in the dark", s.hide(12), 9);
        check.due("in the shadow of one that is as long", s.hide(15), 1);
        check.due("hide(16)", s.hide(16), OUTSIDE);
        check.due("hide(-1)", s.hide(-1), OUTSIDE);
        check.due("no hills", new ShadowCount().hide(3), 0);
        check.due("no hills, but bodies", Check.placed("GBm00Bc10").hide(3), 2);
        check.due("hide puts nobody", s.count(1), 1);
        check.due("hide is no act", s.count(5), 0);
        // rows 0 and 1 are seen in columns 0 to 4: at 10 one in column 4 throws it to 5 to 7
        check.due("where no hill looks", Check.placed("GH0401").hide(10), 4);
        check.due("of two hills", Check.placed("GH0400H5900").hide(10), 9);
        check.due("behind the hills' rows", Check.placed("GH0905Bs00Bs01Bs02").hide(0), 30);
        ShadowCount eight = Check.placed("GBm00Bm01Bm02Bm03Bm04Bm05Bm10Bm11H0900");
        check.due("with eight bodies, too", eight.hide(15), 2);
    }

    private static void hideBehindCliffsAndClouds() {
        check.due("no sun", Check.placed("GH0905L06").hide(5), 0);
        check.due("sun again", Check.placed("GH0905L06Bs00").hide(6), 10);
        check.due("under a cloud", Check.placed("GH0905O1466").hide(6), 0);
        // at 10 a man in column 0 would throw 1 to 3: all under the cloud
        check.due("under a cloud, to the east", Check.placed("GH0905O13aa").hide(10), 0);
        check.due("one cell is not", Check.placed("GH0905O12aa").hide(10), 9);
    }

    private static void hideNowhere() {
        // at 0 only column 0 throws nothing, and there is somebody in each row
        check.due("nowhere", Check.placed("GBc00Bc01Bc02Bc03Bc04Bc05H0905").hide(0), NONE);
        check.due("but where no hill looks", Check.placed("GBc00Bc01Bc02Bc03Bc04Bc05H0904").hide(0), 51);
    }
}

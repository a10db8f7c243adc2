/** Promises 17 to 19. */
public final class CountedTest {
    private static final Check check = new Check("CountedTest");
    private static final int OUTSIDE = -2, UNKNOWN = -1, NONE = -9;
    private static final int[] NO_MINUTES = {-1, 16, Integer.MIN_VALUE, Integer.MAX_VALUE};
    private static final int[] NO_HILLS = {-1, 1, 3, Integer.MIN_VALUE, Integer.MAX_VALUE};
    private static final String WEST_END = "GBc00Bc01Bc02Bc03Bc04Bc05";

    public static void main(String[] args) {
        check.test("counted: of a shorter run 1", CountedTest::shorterRun);
        check.test("counted: of a run as long as a man's shadow 1", CountedTest::runAsLong);
        check.test("counted: just half of it is not up", CountedTest::halfIsDown);
        check.test("counted: less than half of it is not up", CountedTest::lessThanHalf);
        check.test("counted: more than half of it is up", CountedTest::moreThanHalf);
        check.test("counted: its length by that, nothing over", CountedTest::nothingOver);
        check.test("counted: a man's shadow is not cut by the field", CountedTest::notCutByTheField);
        check.test("counted: at minute 8 no run is", CountedTest::atNoon);
        check.test("counted: of each run, together", CountedTest::runsTogether);
        check.test("counted: only what the hill sees", CountedTest::whatTheHillSees);
        check.test("counted: by shadows, not by kinds", CountedTest::statuesToo);
        check.test("counted: UNKNOWN", CountedTest::countedUnknown);
        check.test("counted: OUTSIDE", CountedTest::countedOutside);
        check.test("counted: UNKNOWN is named ahead of OUTSIDE", CountedTest::countedUnknownFirst);
        check.test("best: nearest to people", CountedTest::nearest);
        check.test("best: nearest from above", CountedTest::nearestFromAbove);
        check.test("best: of like ones the first", CountedTest::firstOfLikeOnes);
        check.test("best: above is as near as below", CountedTest::aboveAndBelow);
        check.test("best: nobody is there", CountedTest::nobody);
        check.test("best: the first minute, the last minute", CountedTest::firstAndLastMinute);
        check.test("best: people of all bodies, seen or not", CountedTest::peopleNotSeen);
        check.test("best: of each hill", CountedTest::bestOfEachHill);
        check.test("best: UNKNOWN", CountedTest::bestUnknown);
        hideTests();
        check.end();
    }

    private static void hideTests() {
        check.test("hide: the least cell (10 y and x)", CountedTest::leastCell);
        check.test("hide: the last cell", CountedTest::lastCell);
        check.test("hide: without a body", CountedTest::withoutABody);
        check.test("hide: a man, not one that is smaller", CountedTest::aMan);
        check.test("hide: no hill sees, there is none", CountedTest::noHills);
        check.test("hide: no hill sees, where none looks", CountedTest::whereNoneLooks);
        check.test("hide: no hill of several", CountedTest::severalHills);
        check.test("hide: what is dark is dark", CountedTest::inTheDark);
        check.test("hide: one cell more is seen", CountedTest::oneCellMore);
        check.test("hide: beside the field", CountedTest::besideTheField);
        check.test("hide: at minute 8", CountedTest::hideAtNoon);
        check.test("hide: behind a cliff", CountedTest::behindACliff);
        check.test("hide: under a cloud", CountedTest::underACloud);
        check.test("hide: NONE", CountedTest::nowhere);
        check.test("hide: with 8 bodies, too", CountedTest::withEight);
        check.test("hide: nobody comes", CountedTest::nobodyComes);
        check.test("hide: OUTSIDE", CountedTest::hideOutside);
    }

    /** Bodies whose shadows make one run: how long it is, and what it is counted as. */
    private static void rule(String bodies, int minute, int length, int want) {
        ShadowCount s = Check.placed("G" + bodies + "H0905");
        check.due("runs of " + bodies, s.runs(0, minute), 1);
        check.due("length of " + bodies, s.run(0, minute, 0, 2), length);
        check.due("counted of " + bodies + " at " + minute, s.counted(0, minute), want);
    }

    private static void counted(String place, int minute, int want) {
        check.due("counted(0, " + minute + ") of " + place, Check.placed(place).counted(0, minute), want);
    }

    private static void best(String place, int want) {
        check.due("best(0) of " + place, Check.placed(place).best(0), want);
    }

    private static void hide(String place, int minute, int want) {
        check.due("hide(" + minute + ") of " + place, Check.placed(place).hide(minute), want);
    }

    private static void shorterRun() {
        rule("Bc30", 6, 1, 1);
        rule("Ba30", 6, 2, 1);
        rule("Bm10", 6, 1, 1);
        rule("Bm50Bc20", 0, 5, 1);
    }

    private static void runAsLong() {
        rule("Bm30", 6, 3, 1);
        rule("Bm50", 5, 4, 1);
        rule("Bm90", 4, 6, 1);
        rule("Bm90", 3, 7, 1);
        rule("Bm90", 2, 9, 1);
        rule("Bm50", 7, 1, 1);
    }

    private static void halfIsDown() {
        // at 5 a man's is 4 long, at 4 it is 6 long
        rule("Bm60Bm40", 5, 6, 1);
        rule("Bm60Bm40", 11, 5, 1);
        rule("Bm90Bm60", 4, 9, 1);
        rule("Bm00Bm30", 12, 9, 1);
    }

    private static void lessThanHalf() {
        rule("Bm40Bm30", 6, 4, 1);
        rule("Bm70Bm60Bm30", 6, 7, 2);
        rule("Bm50Bm40", 5, 5, 1);
        rule("Bm90Bm50Bm40", 5, 9, 2);
        rule("Bm80Bm60", 4, 8, 1);
        rule("Bm00Bm10", 13, 8, 1);
    }

    private static void moreThanHalf() {
        rule("Bm50Bm30", 6, 5, 2);
        rule("Bm80Bm60Bm30", 6, 8, 3);
        rule("Bm70Bm40", 5, 7, 2);
        rule("Bm00Bm30", 11, 7, 2);
    }

    private static void nothingOver() {
        rule("Bm60Bm30", 6, 6, 2);
        rule("Bm90Bm60Bm30", 6, 9, 3);
        rule("Bm80Bm40", 5, 8, 2);
        rule("Bm10Bm20Bm30Bm40Bm50", 7, 5, 5);
        rule("Bm00Bm10Bm20Bm30Bm40Bm50Bm60Bm70", 9, 8, 8);
    }

    private static void notCutByTheField() {
        // each shadow has one cell in the field, but a man's is 12 or 10 long
        rule("Bm10Bm20Bm30", 0, 3, 1);
        rule("Bm80Bm70Bm60", 15, 3, 1);
        rule("Bm90", 0, 9, 1);
        rule("Bm00", 15, 9, 1);
    }

    private static void atNoon() {
        counted("GBm50Bm70Bm90Bt55H0905", 8, 0);
    }

    private static void runsTogether() {
        counted("GBm40Bc91H0905", 6, 2);
        // row 0 has a run of 5 and one of 1, row 5 one of 3
        counted("GBm50Bm30Bc80Bm55H0905", 6, 4);
        // two runs of 2 in one row are two, not one of 4
        counted("GBa30Ba60H0905", 6, 2);
        counted("GH0905", 6, 0);
    }

    private static void whatTheHillSees() {
        // at 7 cells 0 to 4 are dark
        counted("GBm10Bm20Bm30Bm40Bm50H0900", 7, 5);
        counted("GBm10Bm20Bm30Bm40Bm50H1300", 7, 3);
        counted("GBm10Bm20Bm30Bm40Bm50H0915", 7, 0);
        counted("GBm10Bm20Bm30Bm40Bm50H5900", 7, 0);
        counted("GBm10Bm20Bm30Bm40Bm50H4900", 7, 1);
        // at 6 cells 0 to 4 are two people, of which the hill sees 1 to 4: one
        counted("GBm50Bm30H0900", 6, 2);
        counted("GBm50Bm30H1900", 6, 1);
    }

    private static void statuesToo() {
        counted("GBs40H0900", 6, 1);
        counted("GBt40H0900", 6, 1);
        counted("GBa40H0900", 6, 1);
    }

    private static void countedUnknown() {
        ShadowCount s = Check.placed("GBm50H0905");
        for (int hill : NO_HILLS) {
            check.due("counted(" + hill + ", 0)", s.counted(hill, 0), UNKNOWN);
        }
        ShadowCount three = Check.placed("GBm50H0905H0905H0000");
        check.due("counted(2, 0) of three", three.counted(2, 0), 1);
        check.due("counted(3, 0) of three", three.counted(3, 0), UNKNOWN);
    }

    private static void countedOutside() {
        ShadowCount s = Check.placed("GBm50H0905");
        for (int minute : NO_MINUTES) {
            check.due("counted(0, " + minute + ")", s.counted(0, minute), OUTSIDE);
        }
    }

    private static void countedUnknownFirst() {
        ShadowCount s = Check.placed("GBm50H0905");
        check.due("counted(1, 16)", s.counted(1, 16), UNKNOWN);
        check.due("counted(-1, -1)", s.counted(-1, -1), UNKNOWN);
    }

    private static void nearest() {
        // up to 5 cells 0 to 7 are two at most, at 6 they are three
        best("GBm20Bm50Bm80H0900", 6);
        // never four: at 7 it is three for the first time
        best("GBm20Bm51Bt82H0905O0906", 7);
    }

    private static void nearestFromAbove() {
        // clouds leave 6 alone: four runs there, one more than there are people, else none
        best("GBt20Bs51Bc82Bs93H0905O0905O097f", 6);
        // the same with two more, which is farther off than none
        best("GBc20Bs51Bs82Bs93H0905O0905O097f", 0);
    }

    private static void firstOfLikeOnes() {
        best("GBm50H0900", 0);
        best("GBm00H0900", 9);
        best("GBm50O0900H0900", 1);
    }

    private static void aboveAndBelow() {
        // one man, one statue: two runs from 0 on, none at 8
        best("GBs20Bm51H0905", 0);
        // none as long as there are clouds (0 and 1), two at 2: as near, so the first
        best("GBs20Bm51H0905O0901", 0);
    }

    private static void nobody() {
        best("GBs20H0900", 8);
        best("GH0905", 0);
        best("GBs00H0900", 0);
        best("GBs90H0900", 8);
    }

    private static void firstAndLastMinute() {
        best("GBm90H0905O091f", 0);
        best("GBm00H0905O098e", 15);
        best("GBm00H0905L0f", 15);
    }

    private static void peopleNotSeen() {
        // a man is seen, twins are not: three are nearest to one
        best("GBm50Bt55H0900O0905", 6);
        // a hill that sees nothing: all are alike
        best("GBm50H9955", 0);
    }

    private static void bestOfEachHill() {
        ShadowCount s = Check.placed("GBm20Bm50Bm80H0900H9955H0400");
        check.due("best(0)", s.best(0), 6);
        check.due("best(1)", s.best(1), 0);
        // at 7 cells 1 and 4 are two, at 6 cells 0 to 4 are two
        check.due("best(2)", s.best(2), 6);
    }

    private static void bestUnknown() {
        ShadowCount s = Check.placed("GBm50H0905");
        for (int hill : NO_HILLS) {
            check.due("best(" + hill + ")", s.best(hill), UNKNOWN);
        }
        check.due("best(3) of three", Check.placed("GH0905H0905H0905").best(3), UNKNOWN);
    }

    private static void leastCell() {
        hide("GBm00H0905", 0, 10);
        hide("GBm00Bm01H0905", 0, 20);
        // behind 8 the east end of row 0 is less than the west end of row 1
        hide("GH0905", 10, 9);
        hide("GH0905", 6, 0);
    }

    private static void lastCell() {
        // behind 8 only column 9 throws nothing, and there is somebody in five rows
        hide("GBc90Bc91Bc92Bc93Bc94H0905", 15, 59);
    }

    private static void withoutABody() {
        hide("GBm00", 3, 1);
        hide("GBm00Bc10", 3, 2);
        hide("GBm00Bs10Ba20Bt30", 3, 4);
        hide("GBm10", 3, 0);
    }

    private static void aMan() {
        // at 7 and 9 a child would throw none, a man throws it to the next cell
        hide("GBs00H0900", 7, 10);
        hide("GH0900", 9, 9);
        // at 6 cells 5 and 6 are dark, 7 is under a cloud: enough for a cart in 7, for a child in 8 of any row
        hide(WEST_END + "Bm80H0905O7766", 6, NONE);
    }

    private static void noHills() {
        for (int minute = 0; minute < 16; minute++) {
            hide("G", minute, 0);
            hide("GBm00", minute, 1);
        }
    }

    private static void whereNoneLooks() {
        // rows 0 and 1 are seen in columns 0 to 4: at 10 one in column 4 throws it to 5 to 7
        hide("GH0401", 10, 4);
        hide("GH0401", 9, 4);
        hide("GBs00H0900", 0, 10);
        hide("GBs00H1900", 6, 1);
        hide("GBs00H1900", 0, 1);
        hide("GH1900", 10, 9);
        hide("GH4900", 10, 0);
        hide("GH3900", 10, 9);
    }

    private static void severalHills() {
        hide("GH0400H5900", 10, 9);
        hide("GH5900H0400", 10, 9);
        hide("GH0200H3300H4900", 10, 9);
        hide("GBs90H0200H3300H4900", 10, 10);
        // two hills see like columns of other rows
        hide("GBs00Bs01H0900H0911", 6, 20);
    }

    private static void inTheDark() {
        // at 15 the man makes all of 1 to 9 dark
        hide("GBm00H0905", 15, 1);
        // at 12 he makes 1 to 6 dark
        hide("GBm00H0905", 12, 9);
        // at 6 three men make 0 to 8 dark
        hide("GBs00Bm30Bm60Bm90H0905", 6, 1);
        // at 6 two statues make 3 to 8 dark: a man in 7 would throw it to 4, 5, 6
        hide("GBs00Bs60Bs90H0905", 6, 7);
    }

    private static void oneCellMore() {
        // at 6 cells 5 to 7 are dark: one in 9 would throw it to 8, too, one in 7 to 4, too
        hide(WEST_END + "Bs80H0905", 6, NONE);
        hide(WEST_END + "Bs80H0705", 6, 9);
        // 4 to 7 are dark
        hide(WEST_END + "Bs80Bs70H0905", 6, NONE);
        // 4 to 8 are dark: one in 8 would throw it to 5, 6, 7
        hide(WEST_END + "Bs90Bs70H0905", 6, 8);
    }

    private static void besideTheField() {
        hide("GH0905", 0, 0);
        hide("GH0905", 7, 0);
        hide("GH0905", 9, 9);
        hide("GH0905", 15, 9);
    }

    private static void hideAtNoon() {
        hide("GH0905", 8, 0);
        hide("GBm00H0905", 8, 1);
        hide("GBm00Bm10Bm20Bm30Bm40Bm50Bm60Bm70H0905", 8, 8);
    }

    private static void behindACliff() {
        hide("GBs00H0905L06", 5, 1);
        hide("GBs00H0905L06", 6, 10);
        hide("GBs00H0905L16", 5, 10);
        hide("GH0905L0f", 14, 0);
        hide("GH0905L0f", 15, 9);
    }

    private static void underACloud() {
        // at 10 a man in column 0 would throw it to 1 to 3
        hide("GH0905O13aa", 10, 0);
        hide("GH0905O12aa", 10, 9);
        hide("GH0905O23aa", 10, 9);
        hide("GH0905O13bb", 10, 9);
        hide("GH0905O2200O13aa", 10, 0);
    }

    private static void nowhere() {
        hide(WEST_END + "H0905", 0, NONE);
        hide(WEST_END + "H0905", 7, NONE);
        hide("GBc90Bc91Bc92Bc93Bc94Bc95H0905", 15, NONE);
        hide(WEST_END + "H0904", 0, 51);
        hide(WEST_END + "H0905", 8, 1);
    }

    private static void withEight() {
        hide("GBm00Bm01Bm02Bm03Bm04Bm05Bm10Bm11H0900", 15, 2);
        hide("GBm10Bm11Bm12Bm13Bm14Bm15Bm20Bm21H0905", 0, 0);
    }

    private static void nobodyComes() {
        ShadowCount s = Check.placed("GBm00H0905");
        check.due("hide(3)", s.hide(3), 10);
        check.due("hide(3) again", s.hide(3), 10);
        check.due("bodies", s.count(1), 1);
        check.due("acts", s.count(5), 0);
    }

    private static void hideOutside() {
        ShadowCount s = Check.placed("GBm00H0905");
        for (int minute : NO_MINUTES) {
            check.due("hide(" + minute + ")", s.hide(minute), OUTSIDE);
        }
    }
}

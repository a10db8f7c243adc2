/** Promises 20 to 25; the counts are also gone through row by row in RandomTest. */
public final class SightsTest {
    private static final Check check = new Check("SightsTest");
    private static final int OUTSIDE = -2, FULL = -4, NONE = -9;

    public static void main(String[] args) {
        check.test("sight: how many there are, up to 6", SightsTest::upToSix);
        check.test("sight: every minute", SightsTest::everyMinute);
        check.test("sight: minute outside", SightsTest::minuteOutside);
        check.test("sight: cells (0 to 1023)", SightsTest::cellsUpToAll);
        check.test("sight: cells outside", SightsTest::cellsOutside);
        check.test("sight: FULL, 6", SightsTest::theSeventh);
        check.test("sight: OUTSIDE is named ahead of FULL", SightsTest::outsideAheadOfFull);
        check.test("sight: what no row shows is a sight, too", SightsTest::whatNoRowShows);
        check.test("unsee: how many there were", SightsTest::howManyThereWere);
        check.test("unsee: there are none", SightsTest::noneAreLeft);
        check.test("fits: 59049 without sights", SightsTest::withoutSights);
        check.test("fits: at minute 8 nothing is dark", SightsTest::atNoon);
        check.test("fits: at minutes 7 and 9 children throw none", SightsTest::nearNoon);
        check.test("fits: at minutes 0 and 15 the last cell throws none", SightsTest::firstAndLastMinute);
        check.test("fits: just these cells were dark", SightsTest::justTheseCells);
        check.test("fits: a cell that none can make dark", SightsTest::cellsThatNoneReaches);
        check.test("fits: one row alone", SightsTest::oneRowAlone);
        check.test("fits: none", SightsTest::noFit);
        check.test("fits: all those minutes", SightsTest::allMinutes);
        check.test("fits: the first and the last of six sights", SightsTest::firstAndLastOfSix);
        check.test("fits: a man or a child or nobody", SightsTest::manChildNobody);
        check.test("fits: without cliff or clouds", SightsTest::withoutCliffOrClouds);
        check.test("fits: bodies on the field don't matter", SightsTest::withoutBodies);
        answers();
        check.end();
    }

    private static void answers() {
        check.test("people: the fewest", SightsTest::fewest);
        check.test("people: the most", SightsTest::most);
        check.test("people: in the only fit", SightsTest::peopleOfOneFit);
        check.test("people: NONE", SightsTest::peopleOfNoFit);
        check.test("people: children are counted", SightsTest::childrenAreCounted);
        check.test("sure: in all of them somebody stands", SightsTest::surely);
        check.test("sure: nowhere", SightsTest::surelyNowhere);
        check.test("sure: in every cell but one", SightsTest::surelyAlmostAll);
        check.test("sure: man or child, somebody", SightsTest::somebody);
        check.test("sure: NONE", SightsTest::sureOfNoFit);
        check.test("next: most unlike rows", SightsTest::mostUnlike);
        check.test("next: a row without dark cells is one, too", SightsTest::nothingDarkIsARow);
        check.test("next: of like ones the first", SightsTest::firstOfLikeOnes);
        check.test("next: only one fit", SightsTest::nextOfOneFit);
        check.test("next: NONE", SightsTest::nextOfNoFit);
        check.test("next: a minute that was seen may be it", SightsTest::anyMinute);
        check.test("asking changes nothing", SightsTest::askingChangesNothing);
    }

    private static void fits(int want, int... told) {
        check.due("fits of " + java.util.Arrays.toString(told), Check.seen(told).fits(), want);
    }

    private static void people(int fewest, int most, int... told) {
        check.due("fewest of " + java.util.Arrays.toString(told), Check.seen(told).people(false), fewest);
        check.due("most of " + java.util.Arrays.toString(told), Check.seen(told).people(true), most);
    }

    private static void sure(int want, int... told) {
        check.due("sure of " + java.util.Arrays.toString(told), Check.seen(told).sure(), want);
    }

    private static void next(int want, int... told) {
        check.due("next of " + java.util.Arrays.toString(told), Check.seen(told).next(), want);
    }

    private static void upToSix() {
        ShadowCount s = new ShadowCount();
        for (int i = 1; i <= 6; i++) {
            check.due("sight", s.sight(8, 0), i);
            check.due("sights", s.count(4), i);
        }
    }

    private static void everyMinute() {
        for (int minute = 0; minute < 16; minute++) {
            check.due("sight(" + minute + ", 0)", new ShadowCount().sight(minute, 0), 1);
        }
    }

    private static void minuteOutside() {
        ShadowCount s = new ShadowCount();
        int[] outside = {-1, 16, Integer.MIN_VALUE, Integer.MAX_VALUE};
        for (int minute : outside) {
            check.due("sight(" + minute + ", 0)", s.sight(minute, 0), OUTSIDE);
        }
        check.due("sights", s.count(4), 0);
    }

    private static void cellsUpToAll() {
        ShadowCount s = new ShadowCount();
        check.due("sight(0, 0)", s.sight(0, 0), 1);
        check.due("sight(0, 1)", s.sight(0, 1), 2);
        check.due("sight(0, 512)", s.sight(0, 512), 3);
        check.due("sight(0, 1023)", s.sight(0, 1023), 4);
    }

    private static void cellsOutside() {
        ShadowCount s = new ShadowCount();
        int[] outside = {-1, 1024, 2047, Integer.MIN_VALUE, Integer.MAX_VALUE};
        for (int cells : outside) {
            check.due("sight(0, " + cells + ")", s.sight(0, cells), OUTSIDE);
        }
        check.due("sights", s.count(4), 0);
        check.due("fits", s.fits(), 59049);
    }

    private static ShadowCount sixSights() {
        return Check.seen(10, 14, 9, 2, 8, 0, 8, 0, 8, 0, 8, 0);
    }

    private static void theSeventh() {
        ShadowCount s = sixSights();
        check.due("the seventh", s.sight(0, 0), FULL);
        check.due("sights", s.count(4), 6);
        check.due("it says nothing", s.fits(), 12);
        s.unsee();
        check.due("after unsee", s.sight(0, 0), 1);
    }

    private static void outsideAheadOfFull() {
        ShadowCount s = sixSights();
        check.due("sight(16, 0)", s.sight(16, 0), OUTSIDE);
        check.due("sight(0, 1024)", s.sight(0, 1024), OUTSIDE);
        check.due("sight(-1, -1)", s.sight(-1, -1), OUTSIDE);
    }

    private static void whatNoRowShows() {
        ShadowCount s = new ShadowCount();
        check.due("sight(8, 1023)", s.sight(8, 1023), 1);
        check.due("sight(9, 4)", s.sight(9, 4), 2);
        check.due("sight(9, 2)", s.sight(9, 2), 3);
    }

    private static void howManyThereWere() {
        check.due("none", new ShadowCount().unsee(), 0);
        check.due("one", Check.seen(10, 14).unsee(), 1);
        check.due("six", sixSights().unsee(), 6);
    }

    private static void noneAreLeft() {
        ShadowCount s = sixSights();
        s.unsee();
        check.due("sights", s.count(4), 0);
        check.due("fits", s.fits(), 59049);
        check.due("unsee again", s.unsee(), 0);
        check.due("sight", s.sight(15, 0), 1);
        check.due("only the new one", s.fits(), 3);
    }

    private static void withoutSights() {
        fits(59049);
        people(0, 10);
        sure(0);
    }

    private static void atNoon() {
        fits(59049, 8, 0);
        fits(0, 8, 1);
        fits(0, 8, 512);
        fits(0, 8, 1023);
    }

    private static void nearNoon() {
        // a man in the first cell throws none in the field, elsewhere there may be children
        fits(3 * 512, 7, 0);
        fits(3 * 512, 9, 0);
        fits(1024, 7, 0, 9, 0);
        fits(256 * 3, 9, 2);
        fits(3, 9, 1022);
        fits(3, 7, 511);
    }

    private static void firstAndLastMinute() {
        fits(3, 0, 0);
        fits(3, 15, 0);
        fits(1, 0, 0, 15, 0);
        // somebody in the second cell from the end, the end is free
        fits(6, 0, 1);
        fits(6, 15, 512);
    }

    private static void justTheseCells() {
        // at 10 a man in cell 0 makes 1 to 3 dark, or children in 0 to 2; cell 9 is free
        fits((4 + 1) * 3, 10, 14);
        fits((4 + 1) * 3, 10, 0b111000);
        // one in cell 6: a man, and all may stand east of him; or a child, a man or child in 7, in 8 if need be
        fits(27 + 9 + 6, 10, 0b1110000000);
        // children in 7 and 9, or in 8 as well; cell 0 is free
        fits(2 * 3, 0, 510);
        // children in 0 and 3, or in 1 or 2 as well; cell 9 is free
        fits(4 * 3, 15, 510);
        // too short for a man: a child
        fits(3, 10, 2);
        fits(3, 10, 6);
    }

    private static void cellsThatNoneReaches() {
        fits(0, 9, 1);
        fits(0, 15, 1);
        fits(0, 15, 1023);
        fits(0, 7, 512);
        fits(0, 0, 512);
        fits(0, 0, 1023);
    }

    private static void oneRowAlone() {
        fits(1, 7, 511, 9, 1022);
        fits(1, 0, 0, 15, 0);
    }

    private static void noFit() {
        fits(0, 9, 2, 9, 4);
        fits(0, 0, 0, 9, 4);
        fits(0, 0, 0, 15, 512);
    }

    private static void allMinutes() {
        fits(12, 10, 14, 9, 2);
        fits(8, 10, 14, 9, 2, 7, 0);
        fits(1, 10, 14, 9, 2, 7, 0, 5, 0);
        fits(12, 9, 2, 10, 14, 9, 2);
    }

    private static void firstAndLastOfSix() {
        fits(3, 0, 0, 8, 0, 8, 0, 8, 0, 8, 0, 8, 0);
        fits(3, 8, 0, 8, 0, 8, 0, 8, 0, 8, 0, 0, 0);
        fits(0, 8, 1, 8, 0, 8, 0, 8, 0, 8, 0, 8, 0);
        fits(0, 8, 512, 8, 0, 8, 0, 8, 0, 8, 0, 8, 0);
        fits(0, 8, 0, 8, 0, 8, 0, 8, 0, 8, 0, 8, 1);
        fits(0, 8, 0, 8, 0, 8, 0, 8, 0, 8, 0, 8, 512);
        fits(6, 15, 512, 15, 512, 15, 512, 15, 512, 15, 512, 15, 512);
        fits(1, 0, 0, 15, 0, 1, 0, 14, 0, 2, 0, 13, 0);
        for (int at = 0; at < 6; at++) {
            int[] told = {8, 0, 8, 0, 8, 0, 8, 0, 8, 0, 8, 0};
            told[2 * at] = 15;
            told[2 * at + 1] = 512;
            fits(6, told);
        }
    }

    private static void manChildNobody() {
        // a man in cell 0 and nobody in 9; a child; nobody: they differ at 12 and 15
        fits(1, 0, 0, 12, 0b1111110);
        fits(1, 0, 0, 12, 0b1110);
        fits(1, 0, 0, 12, 0);
        fits(0, 0, 0, 12, 0b11110);
    }

    private static void withoutCliffOrClouds() {
        ShadowCount s = Check.placed("GL0fL1fL2fL3fL4fL5fO090f");
        check.due("fits without sights", s.fits(), 59049);
        s.sight(7, 511);
        check.due("fits", s.fits(), 3);
        check.due("sure", s.sure(), 1022);
        check.due("next", s.next(), Check.seen(7, 511).next());
    }

    private static void withoutBodies() {
        ShadowCount s = Check.placed("GBm00Bc10Ba20");
        check.due("fits without sights", s.fits(), 59049);
        s.sight(9, 0);
        check.due("fits", s.fits(), 3 * 512);
        check.due("sights make nothing dark", s.dark(9, 1), 0);
        check.due("people of the field", s.count(3), 4);
    }

    private static void fewest() {
        check.due("of all", Check.seen().people(false), 0);
        // at 12 a man darkens 6 cells: all of 1 to 9 need two
        check.due("two men", Check.seen(12, 1022).people(false), 2);
        check.due("one man", Check.seen(15, 1022).people(false), 1);
        check.due("one for each run", Check.seen(10, 0b0011101110).people(false), 2);
        check.due("one for the last three cells", Check.seen(10, 0b1110000000).people(false), 1);
        // at 12 a child makes 3 cells dark, at 9 men would be seen
        check.due("three children", Check.seen(12, 1022, 9, 0).people(false), 3);
        check.due("nine men", Check.seen(9, 1022).people(false), 9);
    }

    private static void most() {
        check.due("of all", Check.seen().people(true), 10);
        check.due("all may stand", Check.seen(12, 1022).people(true), 10);
        check.due("the last cell", Check.seen(15, 0).people(true), 1);
        check.due("the last four cells", Check.seen(10, 0b1110000000).people(true), 4);
        check.due("a child in each of three, and the last cell", Check.seen(10, 14).people(true), 4);
    }

    private static void peopleOfOneFit() {
        people(0, 0, 0, 0, 15, 0);
        people(10, 10, 7, 511, 9, 1022);
    }

    private static void peopleOfNoFit() {
        people(NONE, NONE, 8, 1);
        people(NONE, NONE, 0, 1023);
        people(NONE, NONE, 9, 2, 9, 4);
    }

    private static void childrenAreCounted() {
        people(1, 2, 10, 2);
        people(0, 10, 7, 0, 9, 0);
    }

    private static void surely() {
        sure(1, 10, 2);
        sure(0b0000010001, 10, 0b0011101110);
        sure(0b1000010000, 6, 0b0111001110);
        sure(513, 4, 511, 12, 1022);
        sure(512, 4, 511);
        sure(256, 15, 512);
        sure(2, 0, 1);
    }

    private static void surelyNowhere() {
        sure(0);
        sure(0, 0, 0);
        sure(0, 0, 0, 15, 0);
        sure(0, 7, 0, 9, 0);
    }

    private static void surelyAlmostAll() {
        sure(511, 9, 1022);
        sure(1022, 7, 511);
        sure(1023, 7, 511, 9, 1022);
    }

    private static void somebody() {
        // at 10 cells 1 to 3: a man or a child in cell 0
        sure(1, 10, 14);
        // the last of a row to the east: man or child in 8
        sure(256, 10, 512);
    }

    private static void sureOfNoFit() {
        sure(NONE, 8, 1);
        sure(NONE, 0, 1023);
        sure(NONE, 9, 2, 9, 4);
    }

    private static void mostUnlike() {
        // man, child or nobody in cell 0: at 9 only a man is told, from 10 on all three
        next(10, 0, 0);
        next(6, 10, 14);
        // a child in 3 or 4, and who is in 9? with him a child in 9 makes as much dark as a man, but at 1, at 2
        next(1, 10, 0b0000010000);
        next(2, 10, 0b0000100000);
        // children in 1 and 5: likewise ahead of 3
        next(3, 10, 0b0001000100);
        next(7, 0, 511);
        next(9, 0, 127);
        next(13, 6, 5);
    }

    private static void nothingDarkIsARow() {
        // the only fit, a child in cell 0, shows nothing up to 9
        next(0, 3, 0, 10, 2);
        // 9 shows eight rows, one of them without dark cells, 10 eight others
        next(9, 6, 3);
    }

    private static void firstOfLikeOnes() {
        // child or nobody in each cell: 6 shows cells 0 to 8 as they are, and so does 10
        next(6, 7, 0, 9, 0);
        // man, child or nobody in cell 9: 0 to 6 tell them apart
        next(0, 15, 0);
        // without sights
        next(6);
    }

    private static void nextOfOneFit() {
        next(0, 0, 0, 15, 0);
        next(0, 7, 511, 9, 1022);
    }

    private static void nextOfNoFit() {
        next(NONE, 8, 1);
        next(NONE, 0, 1023);
        next(NONE, 9, 2, 9, 4);
    }

    private static void anyMinute() {
        // one fit: all minutes are alike, also the one that was seen
        next(0, 0, 0, 15, 0, 8, 0);
        next(10, 0, 0, 8, 0);
    }

    private static void askingChangesNothing() {
        ShadowCount s = Check.seen(10, 14, 9, 2);
        for (int i = 0; i < 3; i++) {
            check.due("fits", s.fits(), 12);
            check.due("fewest", s.people(false), 1);
            check.due("most", s.people(true), 4);
            check.due("sure", s.sure(), 1);
            check.due("next", s.next(), 6);
            check.due("sights", s.count(4), 2);
        }
    }
}

/** Promises 12 to 16. */
public final class ShadowsTest {
    private static final Check check = new Check("ShadowsTest");
    private static final int OUTSIDE = -2, UNKNOWN = -1, NONE = -9;
    private static final int[] NO_MINUTES = {-1, 16, Integer.MIN_VALUE, Integer.MAX_VALUE};
    private static final int[] NO_HILLS = {-1, 1, 3, Integer.MIN_VALUE, Integer.MAX_VALUE};

    public static void main(String[] args) {
        check.test("shadow: high times t less 8, by 4, cut", ShadowsTest::lengths);
        check.test("shadow: not cut by the field", ShadowsTest::lengthBesideTheField);
        check.test("shadow: without sun, too", ShadowsTest::lengthWithoutSun);
        check.test("shadow: UNKNOWN", ShadowsTest::shadowUnknown);
        check.test("shadow: OUTSIDE", ShadowsTest::shadowOutside);
        check.test("shadow: UNKNOWN is named ahead of OUTSIDE", ShadowsTest::shadowUnknownFirst);
        check.test("dark: to the west ahead of minute 8", ShadowsTest::toTheWest);
        check.test("dark: to the east behind minute 8", ShadowsTest::toTheEast);
        check.test("dark: at minute 8 nothing", ShadowsTest::atNoon);
        check.test("dark: as far as the field goes, west", ShadowsTest::westEnd);
        check.test("dark: as far as the field goes, east", ShadowsTest::eastEnd);
        check.test("dark: beside its body, not under it", ShadowsTest::besideItsBody);
        check.test("dark: some shadow reaches it", ShadowsTest::someShadow);
        check.test("dark: each row by itself", ShadowsTest::eachRow);
        check.test("dark: OUTSIDE", ShadowsTest::darkOutside);
        check.test("dark: a cliff, no sun ahead of its minute", ShadowsTest::cliff);
        check.test("dark: a cliff of minute 0", ShadowsTest::cliffOfZero);
        check.test("dark: a cliff of minute f", ShadowsTest::cliffOfFifteen);
        check.test("dark: cliffs of six rows", ShadowsTest::sixCliffs);
        check.test("dark: a cloud, columns a to b", ShadowsTest::cloudColumns);
        check.test("dark: a cloud, minutes m to n", ShadowsTest::cloudMinutes);
        check.test("dark: a cloud over all rows", ShadowsTest::cloudRows);
        check.test("dark: a cloud over a body alone", ShadowsTest::cloudOverBody);
        check.test("dark: some cloud of four", ShadowsTest::fourClouds);
        runTests();
        aloneTests();
        check.end();
    }

    private static void runTests() {
        check.test("runs: dark cells beside one another", ShadowsTest::besideOneAnother);
        check.test("runs: as many as can be", ShadowsTest::asManyAsCanBe);
        check.test("runs: of a row, not over its end", ShadowsTest::notOverTheRow);
        check.test("runs: columns that the hill sees", ShadowsTest::columnsOfTheHill);
        check.test("runs: rows that the hill sees", ShadowsTest::rowsOfTheHill);
        check.test("runs: none", ShadowsTest::noRuns);
        check.test("runs: cut by a cloud", ShadowsTest::cutByACloud);
        check.test("runs: as many as there can be", ShadowsTest::mostRuns);
        check.test("runs: UNKNOWN", ShadowsTest::runsUnknown);
        check.test("runs: OUTSIDE", ShadowsTest::runsOutside);
        check.test("runs: UNKNOWN is named ahead of OUTSIDE", ShadowsTest::runsUnknownFirst);
        check.test("run: its row, its first cell, how long it is", ShadowsTest::runTells);
        check.test("run: numbered by row, then from the west", ShadowsTest::numbered);
        check.test("run: cut to what the hill sees", ShadowsTest::runOfTheHill);
        check.test("run: NONE, there are not so many", ShadowsTest::notSoMany);
        check.test("run: NONE, i below 0", ShadowsTest::belowTheFirst);
        check.test("run: UNKNOWN", ShadowsTest::runUnknown);
        check.test("run: OUTSIDE, minute", ShadowsTest::runMinuteOutside);
        check.test("run: OUTSIDE, what", ShadowsTest::runWhatOutside);
        check.test("run: UNKNOWN is named ahead of OUTSIDE", ShadowsTest::runUnknownFirst);
        check.test("run: refused, though there are not so many", ShadowsTest::runRefusedAheadOfNone);
    }

    private static void aloneTests() {
        check.test("alone: shares a dark cell with none", ShadowsTest::sharesWithNone);
        check.test("alone: one shared cell is enough", ShadowsTest::sharesOneCell);
        check.test("alone: and has one", ShadowsTest::hasOne);
        check.test("alone: its dark cells lie beside the field", ShadowsTest::besideTheField);
        check.test("alone: what is shared is not dark", ShadowsTest::sharedIsNotDark);
        check.test("alone: shadows in other rows", ShadowsTest::otherRows);
        check.test("alone: of every kind", ShadowsTest::everyKind);
        check.test("alone: eight, none", ShadowsTest::eightAndNone);
        check.test("alone: OUTSIDE", ShadowsTest::aloneOutside);
    }

    private static void dark(String place, int minute, int y, int want) {
        check.due("dark(" + minute + ", " + y + ") of " + place, Check.placed(place).dark(minute, y), want);
    }

    private static void runs(String place, int minute, int want) {
        check.due("runs(0, " + minute + ") of " + place, Check.placed(place).runs(0, minute), want);
    }

    private static void alone(String place, int minute, int want) {
        check.due("alone(" + minute + ") of " + place, Check.placed(place).alone(minute), want);
    }

    private static void lengths() {
        ShadowCount s = Check.placed("GBm00Bc10Bk20Bs30Ba40Bt50");
        int[] tall = {12, 10, 9, 7, 6, 4, 3, 1, 0, 1, 3, 4, 6, 7, 9, 10};
        int[] small = {6, 5, 4, 3, 3, 2, 1, 0, 0, 0, 1, 2, 3, 3, 4, 5};
        int[] cart = {8, 7, 6, 5, 4, 3, 2, 1, 0, 1, 2, 3, 4, 5, 6, 7};
        int[][] due = {tall, small, small, tall, cart, tall};
        for (int body = 0; body < 6; body++) {
            for (int minute = 0; minute < 16; minute++) {
                check.due("shadow(" + body + ", " + minute + ")", s.shadow(body, minute), due[body][minute]);
            }
        }
    }

    private static void lengthBesideTheField() {
        ShadowCount s = Check.placed("GBm00Bm95");
        check.due("at the west end", s.shadow(0, 0), 12);
        check.due("at the east end", s.shadow(1, 15), 10);
    }

    private static void lengthWithoutSun() {
        ShadowCount s = Check.placed("GBm50Bm51L0fO090f");
        check.due("behind a cliff", s.shadow(0, 0), 12);
        check.due("under a cloud", s.shadow(1, 15), 10);
    }

    private static void shadowUnknown() {
        ShadowCount s = Check.placed("GBm00");
        int[] unknown = {-1, 1, 8, Integer.MIN_VALUE, Integer.MAX_VALUE};
        for (int body : unknown) {
            check.due("shadow(" + body + ", 0)", s.shadow(body, 0), UNKNOWN);
        }
    }

    private static void shadowOutside() {
        ShadowCount s = Check.placed("GBm00");
        for (int minute : NO_MINUTES) {
            check.due("shadow(0, " + minute + ")", s.shadow(0, minute), OUTSIDE);
        }
    }

    private static void shadowUnknownFirst() {
        ShadowCount s = Check.placed("GBm00");
        check.due("shadow(1, 16)", s.shadow(1, 16), UNKNOWN);
        check.due("shadow(-1, -1)", s.shadow(-1, -1), UNKNOWN);
    }

    private static void toTheWest() {
        dark("GBm50", 6, 0, 0b0000011100);
        dark("GBc50", 6, 0, 0b0000010000);
        dark("GBm50", 7, 0, 0b0000010000);
        dark("GBa50", 7, 0, 0b0000010000);
        dark("GBc50", 7, 0, 0);
    }

    private static void toTheEast() {
        dark("GBm50", 10, 0, 0b0111000000);
        dark("GBc50", 10, 0, 0b0001000000);
        dark("GBm50", 9, 0, 0b0001000000);
        dark("GBa50", 9, 0, 0b0001000000);
        dark("GBc50", 9, 0, 0);
    }

    private static void atNoon() {
        ShadowCount s = Check.placed("GBm00Bm11Bm22Bm33Bm44Bm55");
        for (int y = 0; y < 6; y++) {
            check.due("dark(8, " + y + ")", s.dark(8, y), 0);
        }
    }

    private static void westEnd() {
        dark("GBm50", 0, 0, 0b0000011111);
        dark("GBm90", 0, 0, 0b0111111111);
        dark("GBm10", 0, 0, 0b0000000001);
        dark("GBm00", 0, 0, 0);
        // at 4 it is 6 long: it just comes to the end, or lacks one cell
        dark("GBm65", 4, 5, 0b0000111111);
        dark("GBm75", 4, 5, 0b0001111110);
    }

    private static void eastEnd() {
        dark("GBm50", 15, 0, 0b1111000000);
        dark("GBm00", 15, 0, 0b1111111110);
        dark("GBm80", 15, 0, 0b1000000000);
        dark("GBm90", 15, 0, 0);
        dark("GBm35", 12, 5, 0b1111110000);
        dark("GBm25", 12, 5, 0b0111111000);
    }

    private static void besideItsBody() {
        dark("GBm50Bm70", 7, 0, 0b0001010000);
        dark("GBm50Bm60", 7, 0, 0b0000110000);
        dark("GBm50Bm60", 9, 0, 0b0011000000);
    }

    private static void someShadow() {
        dark("GBm30Bm90", 6, 0, 0b0111000111);
        dark("GBm30Bm40", 6, 0, 0b0000001111);
        dark("GBc40Bm50", 6, 0, 0b0000011100);
        dark("GBm00Bm10Bm20Bm30Bm40Bm50Bm60Bm70", 9, 0, 0b0111111110);
    }

    private static void eachRow() {
        ShadowCount s = Check.placed("GBm10Bm21Bm32Bm43Bm54Bm65");
        for (int y = 0; y < 6; y++) {
            check.due("dark(7, " + y + ")", s.dark(7, y), 1 << y);
        }
        dark("GBm50", 0, 1, 0);
        dark("GBm51", 0, 0, 0);
    }

    private static void darkOutside() {
        ShadowCount s = Check.placed("GBm50");
        for (int minute : NO_MINUTES) {
            check.due("dark(" + minute + ", 0)", s.dark(minute, 0), OUTSIDE);
        }
        int[] noRows = {-1, 6, Integer.MIN_VALUE, Integer.MAX_VALUE};
        for (int y : noRows) {
            check.due("dark(0, " + y + ")", s.dark(0, y), OUTSIDE);
        }
        check.due("dark(16, 6)", s.dark(16, 6), OUTSIDE);
    }

    private static void cliff() {
        dark("GBm90L05", 4, 0, 0);
        dark("GBm90L05", 5, 0, 0b0111100000);
        dark("GBm90L05", 6, 0, 0b0111000000);
        dark("GBm90L05", 0, 0, 0);
        dark("GBm91L05", 4, 1, 0b0111111000);
        dark("GBm00L0a", 9, 0, 0);
        dark("GBm00L0a", 10, 0, 0b0000001110);
    }

    private static void cliffOfZero() {
        dark("GBm90L00", 0, 0, 511);
        dark("GBm90L00", 15, 0, 0);
        check.due("it is a cliff", Check.placed("GL00").count(7), 1);
    }

    private static void cliffOfFifteen() {
        dark("GBm00L0f", 14, 0, 0);
        dark("GBm00L0f", 15, 0, 1022);
    }

    private static void sixCliffs() {
        ShadowCount s = Check.placed("GBm50Bm51Bm52Bm53Bm54Bm55L01L12L23L34L45L56");
        for (int minute = 0; minute < 8; minute++) {
            for (int y = 0; y < 6; y++) {
                check.due("dark(" + minute + ", " + y + ") is sunny", s.dark(minute, y) > 0 ? 1 : 0, minute > y ? 1 : 0);
            }
        }
    }

    private static void cloudColumns() {
        dark("GBm90O3500", 0, 0, 0b0111000111);
        dark("GBm90O4400", 0, 0, 0b0111101111);
        dark("GBm90O0000", 0, 0, 0b0111111110);
        dark("GBm90O8900", 0, 0, 0b0011111111);
        dark("GBm00O99ff", 15, 0, 0b0111111110);
        dark("GBm90O0900", 0, 0, 0);
    }

    private static void cloudMinutes() {
        ShadowCount s = Check.placed("GBm90O0935");
        int[] due = {511, 511, 511, 0, 0, 0, 0b0111000000, 0b0100000000};
        for (int minute = 0; minute < 8; minute++) {
            check.due("dark(" + minute + ", 0)", s.dark(minute, 0), due[minute]);
        }
        dark("GBm00O09ff", 14, 0, 0b1111111110);
        dark("GBm00O09ff", 15, 0, 0);
        dark("GBm00O0900", 15, 0, 0b1111111110);
        dark("GBm00O090f", 15, 0, 0);
        dark("GBm90O0944", 4, 0, 0);
        dark("GBm90O0944", 5, 0, 0b0111100000);
    }

    private static void cloudRows() {
        ShadowCount s = Check.placed("GBm50Bm51Bm52Bm53Bm54Bm55O4400");
        for (int y = 0; y < 6; y++) {
            check.due("dark(0, " + y + ")", s.dark(0, y), 0b0000001111);
        }
    }

    private static void cloudOverBody() {
        dark("GBm50O5500", 0, 0, 0b0000011111);
        // the shadow goes on behind the cloud
        dark("GBm50O3400", 0, 0, 0b0000000111);
    }

    private static void fourClouds() {
        dark("GBm90O0000O2200O4400O6600", 0, 0, 0b0110101010);
        dark("GBm90O0400O3800", 0, 0, 0);
        dark("GBm90O0411O3800", 0, 0, 0b0000000111);
    }

    private static void besideOneAnother() {
        // at 7 each man makes one cell dark
        runs("GBm20Bm50Bm90H0905", 7, 3);
        runs("GBm20Bm40Bm60H0905", 7, 3);
        runs("GBm20Bm30Bm60H0905", 7, 2);
        runs("GBm20Bm30Bm40H0905", 7, 1);
    }

    private static void asManyAsCanBe() {
        ShadowCount s = Check.placed("GBm30Bm60Bm90H0905");
        check.due("three shadows, one run", s.runs(0, 6), 1);
        check.due("its first cell", s.run(0, 6, 0, 1), 0);
        check.due("its length", s.run(0, 6, 0, 2), 9);
    }

    private static void notOverTheRow() {
        // at 9 cell 9 of row 0 and cell 1 of row 1; at 7 cell 8 and cell 0
        runs("GBm80Bm01H0905", 9, 2);
        runs("GBm90Bm11H0905", 7, 2);
        runs("GBm50Bm51Bm52H0905", 7, 3);
    }

    private static void columnsOfTheHill() {
        // cells 2 to 4 are dark
        runs("GBm50H0100", 6, 0);
        runs("GBm50H0200", 6, 1);
        runs("GBm50H3300", 6, 1);
        runs("GBm50H4900", 6, 1);
        runs("GBm50H5900", 6, 0);
        runs("GBm00H9900", 15, 1);
        runs("GBm10H0000", 0, 1);
    }

    private static void rowsOfTheHill() {
        runs("GBm52H0901", 6, 0);
        runs("GBm52H0902", 6, 1);
        runs("GBm52H0922", 6, 1);
        runs("GBm52H0925", 6, 1);
        runs("GBm52H0935", 6, 0);
        runs("GBm50H0900", 6, 1);
        runs("GBm55H0955", 6, 1);
    }

    private static void noRuns() {
        runs("GH0905", 0, 0);
        runs("GBm50H0905", 8, 0);
        runs("GBm50L06H0905", 5, 0);
        runs("GBm50O0905H0905", 5, 0);
    }

    private static void cutByACloud() {
        runs("GBm90O4400H0905", 0, 2);
        runs("GBm90O1100O3300O5500O7700H0905", 0, 5);
        runs("GBm90O0000H0905", 0, 1);
    }

    private static void mostRuns() {
        // five runs in each of six rows
        ShadowCount s = Check.placed("GBm90Bm91Bm92Bm93Bm94Bm95H0905O1100O3300O5500O7700");
        check.due("thirty", s.runs(0, 0), 30);
        check.due("the last one's row", s.run(0, 0, 29, 0), 5);
        check.due("the last one's first cell", s.run(0, 0, 29, 1), 8);
        check.due("the last one's length", s.run(0, 0, 29, 2), 1);
        check.due("no more", s.run(0, 0, 30, 0), NONE);
        check.due("all are counted", s.counted(0, 0), 30);
    }

    private static void runsUnknown() {
        ShadowCount s = Check.placed("GBm50H0905");
        for (int hill : NO_HILLS) {
            check.due("runs(" + hill + ", 0)", s.runs(hill, 0), UNKNOWN);
        }
        ShadowCount three = Check.placed("GBm50H0905H0905H0000");
        check.due("runs(2, 0) of three", three.runs(2, 0), 1);
        check.due("runs(3, 0) of three", three.runs(3, 0), UNKNOWN);
    }

    private static void runsOutside() {
        ShadowCount s = Check.placed("GBm50H0905");
        for (int minute : NO_MINUTES) {
            check.due("runs(0, " + minute + ")", s.runs(0, minute), OUTSIDE);
        }
    }

    private static void runsUnknownFirst() {
        ShadowCount s = Check.placed("GBm50H0905");
        check.due("runs(1, 16)", s.runs(1, 16), UNKNOWN);
        check.due("runs(-1, -1)", s.runs(-1, -1), UNKNOWN);
    }

    private static void one(ShadowCount s, int hill, int minute, int i, int... due) {
        for (int what = 0; what < 3; what++) {
            check.due("run(" + hill + ", " + minute + ", " + i + ", " + what + ")", s.run(hill, minute, i, what), due[what]);
        }
    }

    private static void runTells() {
        ShadowCount s = Check.placed("GBm53H0905");
        one(s, 0, 6, 0, 3, 2, 3);
        one(s, 0, 0, 0, 3, 0, 5);
        one(s, 0, 15, 0, 3, 6, 4);
    }

    private static void numbered() {
        // at 6: row 0 has 0 1, 3 4 5 6 7 8; row 1 has 0 1 2; told from the south and the east
        ShadowCount s = Check.placed("GBm31Bm90Bm60Bm20H0905");
        one(s, 0, 6, 0, 0, 0, 2);
        one(s, 0, 6, 1, 0, 3, 6);
        one(s, 0, 6, 2, 1, 0, 3);
    }

    private static void runOfTheHill() {
        // at 0: row 0 has 0 to 8; at 12: 3 to 8 of the first, 4 to 9 in row 1
        ShadowCount s = Check.placed("GBm90Bm20Bm31H3601H4415H8905");
        one(s, 0, 0, 0, 0, 3, 4);
        one(s, 2, 0, 0, 0, 8, 1);
        one(s, 0, 12, 0, 0, 3, 4);
        one(s, 0, 12, 1, 1, 4, 3);
        one(s, 1, 12, 0, 1, 4, 1);
        one(s, 2, 12, 0, 0, 8, 1);
        one(s, 2, 12, 1, 1, 8, 2);
    }

    private static void notSoMany() {
        ShadowCount s = Check.placed("GBm20Bm60H0905");
        one(s, 0, 6, 1, 0, 3, 3);
        one(s, 0, 6, 2, NONE, NONE, NONE);
        one(s, 0, 6, 30, NONE, NONE, NONE);
        one(s, 0, 6, Integer.MAX_VALUE, NONE, NONE, NONE);
        one(s, 0, 8, 0, NONE, NONE, NONE);
        // what an earlier look saw is not seen again
        s.runs(0, 6);
        one(s, 0, 8, 1, NONE, NONE, NONE);
    }

    private static void belowTheFirst() {
        ShadowCount s = Check.placed("GBm20Bm60H0905");
        one(s, 0, 6, -1, NONE, NONE, NONE);
        one(s, 0, 6, Integer.MIN_VALUE, NONE, NONE, NONE);
    }

    private static void runUnknown() {
        ShadowCount s = Check.placed("GBm20H0905");
        for (int hill : NO_HILLS) {
            check.due("run(" + hill + ", 0, 0, 0)", s.run(hill, 0, 0, 0), UNKNOWN);
        }
    }

    private static void runMinuteOutside() {
        ShadowCount s = Check.placed("GBm20H0905");
        for (int minute : NO_MINUTES) {
            check.due("run(0, " + minute + ", 0, 0)", s.run(0, minute, 0, 0), OUTSIDE);
        }
    }

    private static void runWhatOutside() {
        ShadowCount s = Check.placed("GBm20H0905");
        int[] outside = {-1, 3, Integer.MIN_VALUE, Integer.MAX_VALUE};
        for (int what : outside) {
            check.due("run(0, 0, 0, " + what + ")", s.run(0, 0, 0, what), OUTSIDE);
        }
    }

    private static void runUnknownFirst() {
        ShadowCount s = Check.placed("GBm20H0905");
        check.due("run(1, 16, 0, 0)", s.run(1, 16, 0, 0), UNKNOWN);
        check.due("run(1, 0, 0, 3)", s.run(1, 0, 0, 3), UNKNOWN);
        check.due("run(-1, 0, 99, 0)", s.run(-1, 0, 99, 0), UNKNOWN);
    }

    private static void runRefusedAheadOfNone() {
        ShadowCount s = Check.placed("GBm20H0905");
        check.due("run(0, 6, 99, 3)", s.run(0, 6, 99, 3), OUTSIDE);
        check.due("run(0, 16, 99, 0)", s.run(0, 16, 99, 0), OUTSIDE);
        check.due("run(0, 8, 0, -1)", s.run(0, 8, 0, -1), OUTSIDE);
    }

    private static void sharesWithNone() {
        alone("GBm20Bm60Bm90", 6, 3);
        alone("GBm20Bm40Bm90", 6, 1);
        alone("GBm20Bm40Bm60", 6, 0);
        // one ends where the next begins
        alone("GBm30Bm60Bm90", 6, 3);
    }

    private static void sharesOneCell() {
        // at 5 they are 4 long: 1 to 4 and 5 to 8 share none, 1 to 4 and 4 to 7 one
        alone("GBm50Bm90", 5, 2);
        alone("GBm50Bm80", 5, 0);
        // the longer one has all of the shorter one's
        alone("GBm50Bc40", 5, 0);
    }

    private static void hasOne() {
        alone("GBm50", 8, 0);
        alone("GBc50", 7, 0);
        alone("GBm50Bc52", 7, 1);
        alone("GBm50L06", 5, 0);
        alone("GBm50L05", 5, 1);
        alone("GBm50O1455", 5, 0);
        alone("GBm50O1355", 5, 1);
    }

    private static void besideTheField() {
        alone("GBm00", 0, 0);
        alone("GBm10", 0, 1);
        alone("GBm95", 15, 0);
        alone("GBm85", 15, 1);
        // at 10 of three men in row 0 the last one's lies beside the field
        alone("GBm00Bm50Bm90", 10, 2);
        alone("GBm80Bm90", 10, 1);
    }

    private static void sharedIsNotDark() {
        // at 5 they share cell 4
        alone("GBm50Bm80O4455", 5, 2);
        alone("GBm50Bm80O4444", 5, 0);
        alone("GBm50Bm80O0455", 5, 1);
        alone("GBm50Bm80O4955", 5, 1);
        alone("GBm50Bm80O0955", 5, 0);
    }

    private static void otherRows() {
        alone("GBm50Bm51", 5, 2);
        alone("GBm50Bm60Bm51", 5, 1);
        alone("GBm50Bm51L06", 5, 1);
    }

    private static void everyKind() {
        alone("GBm50Bc51Bk52Bs53Ba54Bt55", 6, 6);
        // a statue's shadow is shared like a man's
        alone("GBm50Bs60", 6, 0);
    }

    private static void eightAndNone() {
        alone("GBm10Bm20Bm30Bm40Bm50Bm60Bm70Bm80", 7, 8);
        alone("GBm10Bm20Bm30Bm40Bm50Bm60Bm70Bm80", 6, 0);
        alone("G", 6, 0);
    }

    private static void aloneOutside() {
        ShadowCount s = Check.placed("GBm50");
        for (int minute : NO_MINUTES) {
            check.due("alone(" + minute + ")", s.alone(minute), OUTSIDE);
        }
    }
}

/** Promise 4: FAULT. */
public final class FaultTest {
    private static final Check check = new Check("FaultTest");
    private static final int STATE = -3, NONE = -9;
    private static final String COLUMNS = "0123456789", ROWS = "012345", MINUTES = "0123456789abcdef";
    private static final String EIGHT = "GBm50Bm51Bm52Bm53Bm54Bm55Bm45Bc44";
    private static final String LONGEST =
        "GBt05Bt15Bt25Bt35Bt45Bt55Bt65Bt75H0000H0001H0905L00L10L20L30L40L50O0000O0000O0000O0000";

    public static void main(String[] args) {
        check.test("a place is G ..", FaultTest::beginsWithG);
        check.test(".. then parts, none", () -> fault("G", NONE));
        check.test(".. or more, of four sorts", () -> only("G", "BHLO"));
        check.test("a body's kind", () -> only("GB", "mcksat"));
        check.test("a body's x (0 to 9)", () -> only("GBm", COLUMNS));
        check.test("a body's y (0 to 5)", () -> last("GBm9", ROWS));
        check.test("no two bodies in one cell", FaultTest::twoInOneCell);
        check.test("no two in one: a full column", FaultTest::fullColumn);
        check.test("8 bodies at most", FaultTest::eightBodies);
        check.test("a hill's first column (0 to 9)", () -> only("GH", COLUMNS));
        check.test("a hill: b no less than a", FaultTest::hillColumns);
        check.test("a hill's first row (0 to 5)", () -> only("GH09", ROWS));
        check.test("a hill: d no less than c", FaultTest::hillRows);
        check.test("3 hills at most", FaultTest::threeHills);
        check.test("a cliff's row (0 to 5)", () -> only("GL", ROWS));
        check.test("a cliff's minute (0 to f)", () -> last("GL5", MINUTES));
        check.test("a cliff: each row once", FaultTest::eachRowOnce);
        check.test("a cliff: six rows have one", FaultTest::sixCliffs);
        check.test("a cloud's first column (0 to 9)", () -> only("GO", COLUMNS));
        check.test("a cloud: b no less than a", FaultTest::cloudColumns);
        check.test("a cloud's first minute (0 to f)", () -> only("GO99", MINUTES));
        check.test("a cloud: n no less than m", FaultTest::cloudMinutes);
        check.test("4 clouds at most", FaultTest::fourClouds);
        check.test("the first byte", FaultTest::firstOfSeveral);
        check.test("whatever came behind it", FaultTest::whateverCameBehind);
        check.test("its length, if it is only not at its end", FaultTest::notAtItsEnd);
        check.test("its length set aside: the longest place", FaultTest::longestPlace);
        check.test("its length set aside: a text of 92", FaultTest::fullText);
        check.test("limits of sorts are apart", FaultTest::limitsAreApart);
        check.test("only the text has a fault", FaultTest::fieldDoesNotMatter);
        check.end();
    }

    private static void fault(String text, int want) {
        ShadowCount s = new ShadowCount();
        Check.write(s, text);
        check.due("fault of '" + text + "'", s.fault(), want);
        check.due("fault of '" + text + "' again", s.fault(), want);
        check.due("bytes of '" + text + "'", s.count(0), text.length());
        check.due("place of '" + text + "' is refused", s.place() == STATE ? 1 : 0, want == NONE ? 0 : 1);
    }

    /** Of all 256 bytes just these may come behind a text, and more must come behind them. */
    private static void only(String before, String allowed) {
        for (char sign = 0; sign < 256; sign++) {
            fault(before + sign, allowed.indexOf(sign) >= 0 ? before.length() + 1 : before.length());
        }
    }

    /** Of all 256 bytes just these may come behind a text, and they are its end. */
    private static void last(String before, String allowed) {
        for (char sign = 0; sign < 256; sign++) {
            fault(before + sign, allowed.indexOf(sign) >= 0 ? NONE : before.length());
        }
    }

    private static void beginsWithG() {
        fault("", 0);
        for (char sign = 0; sign < 256; sign++) {
            fault("" + sign, sign == 'G' ? NONE : 0);
        }
    }

    private static void twoInOneCell() {
        fault("GBm11Bc11", 8);
        fault("GBm00Bm00", 8);
        fault("GBm95Bc00Bt95", 12);
        fault("GBm11Bc12", NONE);
        fault("GBm11Bc21", NONE);
        fault("GBm12Bc21", NONE);
    }

    private static void fullColumn() {
        fault("GBm50Bm51Bm52Bm53Bm54Bm5", 24);
        fault("GBm50Bm51Bm52Bm53Bm54Bm55B", 26);
        fault("GBm50Bm51Bm52Bm53Bm54Bm55Bm", 27);
        fault("GBm50Bm51Bm52Bm53Bm54Bm55Bm5", 27);
        fault("GBm50Bm51Bm52Bm53Bm54Bm55Bm4", 28);
        fault("GBm50Bm51Bm52Bm53Bm54Bm65Bm5", 28);
        fault("GBm00Bm50Bm51Bm52Bm53Bm54Bm55Bm5", 31);
        fault("GBm00Bm50Bm51Bm52Bm53Bm54Bm55Bm0", 32);
    }

    private static void eightBodies() {
        fault(EIGHT, NONE);
        fault(EIGHT + "B", 33);
        fault(EIGHT + "Bm00", 33);
    }

    private static void hillColumns() {
        for (int a = 0; a <= 9; a++) {
            only("GH" + a, COLUMNS.substring(a));
        }
    }

    private static void hillRows() {
        for (int c = 0; c <= 5; c++) {
            last("GH09" + c, ROWS.substring(c));
        }
    }

    private static void threeHills() {
        fault("GH0905H0000H9955", NONE);
        fault("GH0905H0000H9955H", 16);
        fault("GH0905H0905H0905", NONE);
    }

    private static void eachRowOnce() {
        for (int y = 0; y <= 5; y++) {
            only("GL" + y + "8L", ROWS.replace("" + y, ""));
        }
        fault("GL0fL1fL0", 8);
    }

    private static void sixCliffs() {
        fault("GL0fL1eL2dL3cL4bL", 17);
        fault("GL0fL1eL2dL3cL4bL5a", NONE);
        fault("GL0fL1eL2dL3cL4bL5aL", 19);
    }

    private static void cloudColumns() {
        for (int a = 0; a <= 9; a++) {
            only("GO" + a, COLUMNS.substring(a));
        }
    }

    private static void cloudMinutes() {
        for (int m = 0; m <= 15; m++) {
            last("GO99" + MINUTES.charAt(m), MINUTES.substring(m));
        }
    }

    private static void fourClouds() {
        fault("GO0000O0000O0000O0000", NONE);
        fault("GO0000O0000O0000O0000O", 21);
        fault("GO0000O0000O0000O", 17);
    }

    private static void firstOfSeveral() {
        fault("XBx", 0);
        fault("GBxHa", 2);
        fault("GBm00XBm00", 5);
        fault("GH10L6", 3);
        fault("GL00L00Bm00Bm00", 5);
    }

    private static void whateverCameBehind() {
        fault("GBm06", 4);
        fault("GBm060", 4);
        fault("GBm06Bm00", 4);
        fault("GH54G", 3);
        fault(EIGHT + "BGGGGGGG", 33);
    }

    /** Each beginning of a place is its own length, but where a part has come to its end. */
    private static void notAtItsEnd() {
        String text = "GBm00H0905L1fO00ff";
        String ends = ",1,5,10,13,18,";
        for (int length = 0; length <= text.length(); length++) {
            fault(text.substring(0, length), ends.contains("," + length + ",") ? NONE : length);
        }
    }

    private static void longestPlace() {
        check.due("its length", LONGEST.length(), 86);
        fault(LONGEST, NONE);
        fault(LONGEST.substring(0, 85), 85);
        for (char sign = 0; sign < 256; sign++) {
            fault(LONGEST + sign, 86);
        }
    }

    private static void fullText() {
        fault(LONGEST + "Bm00Bm", 86);
        fault("X" + LONGEST + "Bm00B", 0);
        fault("GBm99" + LONGEST + "B", 4);
    }

    private static void limitsAreApart() {
        fault(EIGHT + "H0000L00O0000", NONE);
        fault("GH0905H0000H9955Bm00L00O0000", NONE);
        fault("GL0fL1eL2dL3cL4bL5aBm00H0000O0000", NONE);
        fault("GO0000O0000O0000O0000Bm00H0000L00", NONE);
        fault("GL00Bm00O0000H0000L10Bm10O0000H0000", NONE);
    }

    private static void fieldDoesNotMatter() {
        ShadowCount s = Check.placed(EIGHT);
        check.due("what is the place has none", s.fault(), NONE);
        Check.rewrite(s, "GBm50");
        check.due("a cell that is taken on the field", s.fault(), NONE);
        s.take(0);
        s.put(0, 0, 0);
        check.due("after acts", s.fault(), NONE);
    }
}

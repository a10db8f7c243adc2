/** Promises 2 and 3. */
public final class TextTest {
    private static final Check check = new Check("TextTest");
    private static final int OUTSIDE = -2, STATE = -3, FULL = -4, NONE = -9, MOST = 92;

    public static void main(String[] args) {
        check.test("write: n bytes (1 to 8), too few", TextTest::tooFewBytes);
        check.test("write: n bytes (1 to 8), too many", TextTest::tooManyBytes);
        check.test("write: n bytes (1 to 8), each", TextTest::oneToEightBytes);
        check.test("write: the lowest n", TextTest::lowestBytes);
        check.test("write: the highest of these first", TextTest::highestFirst);
        check.test("write: bytes, up to 255", TextTest::bytesWithTheSignBit);
        check.test("write: they come behind the text", TextTest::behindTheText);
        check.test("write: the text is 92 bytes at most", TextTest::upToTheMost);
        check.test("write: FULL, it would be longer than 92", TextTest::oneMoreThanTheMost);
        check.test("write: FULL, nothing comes", TextTest::nothingComes);
        check.test("write: FULL, a text of 92", TextTest::fullText);
        check.test("write: OUTSIDE is named ahead of FULL", TextTest::outsideAheadOfFull);
        check.test("write: the place is as it was", TextTest::writeLeavesThePlace);
        check.test("wipe: how long it was", TextTest::wipeTellsLength);
        check.test("wipe: the text is empty", TextTest::wipeEmpties);
        check.test("wipe: the place is as it was", TextTest::wipeLeavesThePlace);
        check.end();
    }

    /** A text of so many bytes, of which none says anything. */
    private static ShadowCount filled(int length) {
        ShadowCount s = new ShadowCount();
        for (int i = 0; i < length / 8; i++) {
            s.write(8, 0L);
        }
        if (length % 8 > 0) {
            s.write(length % 8, 0L);
        }
        check.due("filled", s.count(0), length);
        return s;
    }

    private static void refused(int n) {
        ShadowCount s = new ShadowCount();
        check.due("write(" + n + ", ..)", s.write(n, 'G'), OUTSIDE);
        check.due("bytes", s.count(0), 0);
    }

    private static void tooFewBytes() {
        refused(0);
        refused(-1);
        refused(-8);
        refused(Integer.MIN_VALUE);
    }

    private static void tooManyBytes() {
        refused(9);
        refused(16);
        refused(257);
        refused(Integer.MAX_VALUE);
    }

    private static void oneToEightBytes() {
        for (int n = 1; n <= 8; n++) {
            ShadowCount s = new ShadowCount();
            check.due("write(" + n + ", ..)", s.write(n, 0L), n);
            check.due("write(" + n + ", ..) once more", s.write(n, 0L), 2 * n);
            check.due("bytes", s.count(0), 2 * n);
        }
    }

    private static void lowestBytes() {
        String[] told = {"G", "GB", "GBm", "GBm1", "GBm12", "GBm12B", "GBm12Bm"};
        for (String text : told) {
            ShadowCount s = new ShadowCount();
            long above = 0x5858585858585858L << (8 * text.length());
            s.write(text.length(), above | Check.bytes(text));
            check.due("fault of " + text, s.fault(), text.equals("G") || text.equals("GBm12") ? NONE : text.length());
        }
    }

    private static void highestFirst() {
        ShadowCount s = new ShadowCount();
        s.write(8, 0x47426d3132483039L);
        s.write(2, 0x3035L);
        check.due("GBm12H0905", s.place(), 1);
        check.due("x", s.body(0, 1), 1);
        check.due("y", s.body(0, 2), 2);
        check.due("b", s.hill(0, 1), 9);
        check.due("d", s.hill(0, 3), 5);
    }

    private static void bytesWithTheSignBit() {
        ShadowCount s = new ShadowCount();
        check.due("write(8, -1)", s.write(8, -1L), 8);
        check.due("fault", s.fault(), 0);
        s.wipe();
        s.write(2, 0x47c2L);
        check.due("B and the sign bit is no B", s.fault(), 1);
        s.wipe();
        check.due("write(1, a number below 0)", s.write(1, 0xffffffffffffff47L), 1);
        check.due("its lowest byte is G", s.fault(), NONE);
        s.wipe();
        s.write(8, 0xc7426d3132426d33L);
        check.due("G and the sign bit is no G", s.fault(), 0);
    }

    private static void behindTheText() {
        ShadowCount s = new ShadowCount();
        for (char sign : "GBm12Bc34".toCharArray()) {
            s.write(1, sign);
        }
        s.place();
        check.same("sign by sign", Check.bodies(s), "m12 c34");
    }

    private static void upToTheMost() {
        for (int n = 1; n <= 8; n++) {
            check.due("up to 92 by " + n, filled(MOST - n).write(n, 0L), MOST);
        }
    }

    private static void oneMoreThanTheMost() {
        for (int n = 1; n <= 8; n++) {
            check.due("up to 93 by " + n, filled(MOST + 1 - n).write(n, 0L), FULL);
        }
    }

    private static void nothingComes() {
        ShadowCount s = filled(85);
        check.due("write(8, ..)", s.write(8, 0L), FULL);
        check.due("bytes", s.count(0), 85);
        check.due("but seven come", s.write(7, 0L), MOST);
    }

    private static void fullText() {
        ShadowCount s = filled(MOST);
        for (int n = 1; n <= 8; n++) {
            check.due("write(" + n + ", ..)", s.write(n, 0L), FULL);
        }
        check.due("bytes", s.count(0), MOST);
        s.wipe();
        check.due("after wipe", s.write(8, 0L), 8);
    }

    private static void outsideAheadOfFull() {
        ShadowCount s = filled(MOST);
        check.due("write(0, ..)", s.write(0, 0L), OUTSIDE);
        check.due("write(9, ..)", s.write(9, 0L), OUTSIDE);
    }

    private static void writeLeavesThePlace() {
        ShadowCount s = Check.placed("GBm12");
        check.due("write", s.write(4, Check.bytes("Bc34")), 9);
        check.same("bodies", Check.bodies(s), "m12");
    }

    private static void wipeTellsLength() {
        check.due("an empty text", new ShadowCount().wipe(), 0);
        check.due("one byte", filled(1).wipe(), 1);
        check.due("a full text", filled(MOST).wipe(), MOST);
    }

    private static void wipeEmpties() {
        ShadowCount s = Check.placed("GBm12");
        check.due("wipe", s.wipe(), 5);
        check.due("bytes", s.count(0), 0);
        check.due("fault", s.fault(), 0);
        check.due("place", s.place(), STATE);
        check.due("wipe again", s.wipe(), 0);
    }

    private static void wipeLeavesThePlace() {
        ShadowCount s = Check.placed("GBm12H0905L11O0000");
        s.wipe();
        check.same("bodies", Check.bodies(s), "m12");
        check.due("hills", s.count(2), 1);
        check.due("clouds", s.count(6), 1);
        check.due("cliffs", s.count(7), 2);
    }
}

/** Promises 26 to 28. */
public final class SlotsTest {
    private static final Check check = new Check("SlotsTest");
    private static final int OUTSIDE = -2, STATE = -3, UNKNOWN = -1;
    private static final int[] NO_SLOTS = {-1, 2, Integer.MIN_VALUE, Integer.MAX_VALUE};
    private static final String EIGHT = "GBm00Bc11Bk22Bs33Ba44Bt55Bm65Bc75";

    public static void main(String[] args) {
        check.test("keep: how many bodies, none and 8", SlotsTest::howManyAreKept);
        check.test("keep: bodies and sights stay, acts too", SlotsTest::keepChangesNothingElse);
        check.test("keep: once more, the newer", SlotsTest::keptOnceMore);
        check.test("keep: UNKNOWN", SlotsTest::keepUnknown);
        check.test("again: bodies are as they were kept", SlotsTest::bodiesAgain);
        check.test("again: fewer or more bodies than now", SlotsTest::fewerOrMore);
        check.test("again: sights are as they were kept", SlotsTest::sightsAgain);
        check.test("again: six sights, none", SlotsTest::sixSightsAgain);
        check.test("again: no acts", SlotsTest::noActs);
        check.test("again: a second time", SlotsTest::secondTime);
        check.test("again: UNKNOWN", SlotsTest::againUnknown);
        check.test("again: STATE, none were kept", SlotsTest::noneWereKept);
        check.test("again: STATE, after a new place", SlotsTest::afterANewPlace);
        check.test("again: kept still, after a place that was refused", SlotsTest::afterARefusedPlace);
        check.test("again: kept without bodies or sights is kept", SlotsTest::keptNothing);
        check.test("slots 0 to 1 are apart", SlotsTest::slotsAreApart);
        check.test("slots keep bodies, sights, nothing else", SlotsTest::nothingElse);
        check.test("count: each", SlotsTest::counts);
        check.test("count: bytes, not those of the place", SlotsTest::countOfBytes);
        check.test("count: people", SlotsTest::countOfPeople);
        check.test("count: at their most", SlotsTest::countsAtTheirMost);
        check.test("count: rows with a cliff (bits)", SlotsTest::countOfCliffs);
        check.test("count: OUTSIDE", SlotsTest::countOutside);
        check.end();
    }

    private static void howManyAreKept() {
        check.due("none", new ShadowCount().keep(0), 0);
        check.due("eight", Check.placed(EIGHT).keep(1), 8);
        ShadowCount s = Check.placed("GBm00");
        s.put(1, 1, 1);
        check.due("after an act", s.keep(0), 2);
    }

    private static void keepChangesNothingElse() {
        ShadowCount s = Check.placed("GBm00Bc11");
        s.put(2, 2, 2);
        s.sight(10, 14);
        s.keep(0);
        check.same("bodies", Check.bodies(s), "m00 c11 k22");
        check.due("sights", s.count(4), 1);
        check.due("acts", s.count(5), 1);
        check.due("they can be taken back", s.back(), 0);
        check.same("bodies", Check.bodies(s), "m00 c11");
    }

    private static void keptOnceMore() {
        ShadowCount s = Check.placed(EIGHT);
        s.sight(0, 0);
        s.keep(0);
        Check.rewrite(s, "GBm00Bc11");
        s.take(0);
        s.unsee();
        check.due("keep", s.keep(0), 7);
        s.take(0);
        check.due("again", s.again(0), 7);
        check.due("the first one is away", s.body(0, 0), 1);
        check.due("sights", s.count(4), 0);
    }

    private static void keepUnknown() {
        ShadowCount s = Check.placed("GBm00");
        for (int slot : NO_SLOTS) {
            check.due("keep(" + slot + ")", s.keep(slot), UNKNOWN);
        }
        check.due("again(0)", s.again(0), STATE);
        check.due("again(1)", s.again(1), STATE);
    }

    private static void bodiesAgain() {
        ShadowCount s = Check.placed("GBm00Bc11Bt22");
        s.keep(0);
        s.move(0, 5, 5);
        s.take(1);
        s.put(4, 1, 1);
        check.due("again(0)", s.again(0), 3);
        check.same("bodies", Check.bodies(s), "m00 c11 t22");
        check.due("dark as then", s.dark(6, 1), 1);
    }

    private static void fewerOrMore() {
        ShadowCount s = Check.placed(EIGHT);
        s.keep(0);
        for (int i = 0; i < 8; i++) {
            s.take(0);
        }
        s.keep(1);
        check.due("eight", s.again(0), 8);
        check.same("bodies", Check.bodies(s), "m00 c11 k22 s33 a44 t55 m65 c75");
        check.due("none", s.again(1), 0);
        check.due("bodies", s.count(1), 0);
    }

    private static void sightsAgain() {
        ShadowCount s = Check.seen(10, 14, 9, 2);
        s.keep(0);
        s.unsee();
        s.sight(8, 1);
        check.due("others", s.fits(), 0);
        s.again(0);
        check.due("sights", s.count(4), 2);
        check.due("fits", s.fits(), 12);
    }

    private static void sixSightsAgain() {
        ShadowCount s = Check.seen(8, 0, 8, 0, 8, 0, 8, 0, 8, 0, 15, 512);
        s.keep(0);
        s.unsee();
        s.keep(1);
        s.again(0);
        check.due("six", s.count(4), 6);
        check.due("fits", s.fits(), 6);
        s.again(1);
        check.due("none", s.count(4), 0);
        check.due("fits", s.fits(), 59049);
    }

    private static void noActs() {
        ShadowCount s = Check.placed("GBm00");
        s.move(0, 1, 1);
        s.keep(0);
        s.move(0, 2, 2);
        s.again(0);
        check.due("acts", s.count(5), 0);
        check.due("back", s.back(), STATE);
        check.same("bodies", Check.bodies(s), "m11");
        s.move(0, 3, 3);
        check.due("acts anew", s.back(), 0);
        check.same("bodies", Check.bodies(s), "m11");
    }

    private static void secondTime() {
        ShadowCount s = Check.placed("GBm00");
        s.sight(10, 14);
        s.keep(0);
        for (int i = 0; i < 3; i++) {
            s.move(0, 7, 3);
            s.put(1, 8, 3);
            s.sight(8, 1);
            check.due("again", s.again(0), 1);
            check.same("bodies", Check.bodies(s), "m00");
            check.due("fits", s.fits(), 15);
        }
    }

    private static void againUnknown() {
        ShadowCount s = Check.placed("GBm00");
        s.keep(0);
        s.keep(1);
        for (int slot : NO_SLOTS) {
            check.due("again(" + slot + ")", s.again(slot), UNKNOWN);
        }
    }

    private static void noneWereKept() {
        ShadowCount s = Check.placed("GBm00");
        check.due("again(0)", s.again(0), STATE);
        check.due("again(1)", s.again(1), STATE);
        s.put(0, 5, 5);
        s.sight(8, 0);
        s.keep(0);
        check.due("only the other one", s.again(1), STATE);
        check.due("acts stay", s.count(5), 1);
        check.due("sights stay", s.count(4), 1);
    }

    private static void afterANewPlace() {
        ShadowCount s = Check.placed("GBm00");
        s.keep(0);
        s.keep(1);
        Check.rewrite(s, "G");
        s.place();
        check.due("again(0)", s.again(0), STATE);
        check.due("again(1)", s.again(1), STATE);
    }

    private static void afterARefusedPlace() {
        ShadowCount s = Check.placed("GBm00");
        s.keep(0);
        Check.rewrite(s, "GBx");
        s.place();
        check.due("again(0)", s.again(0), 1);
    }

    private static void keptNothing() {
        ShadowCount s = new ShadowCount();
        s.keep(0);
        s.put(0, 0, 0);
        s.sight(0, 0);
        check.due("again(0)", s.again(0), 0);
        check.due("bodies", s.count(1), 0);
        check.due("sights", s.count(4), 0);
    }

    private static void slotsAreApart() {
        ShadowCount s = Check.placed("GBm00");
        s.keep(0);
        s.put(4, 3, 2);
        s.sight(0, 0);
        s.keep(1);
        check.due("slot 0", s.again(0), 1);
        check.due("its sights", s.count(4), 0);
        check.due("slot 1", s.again(1), 2);
        check.same("its bodies", Check.bodies(s), "m00 a32");
        check.due("its sights", s.count(4), 1);
    }

    private static void nothingElse() {
        ShadowCount s = Check.placed("GH0905L33O1122");
        s.keep(0);
        s.write(2, 0x4242L);
        s.again(0);
        check.due("bytes", s.count(0), 16);
        check.due("hills", s.count(2), 1);
        check.due("clouds", s.count(6), 1);
        check.due("cliffs", s.count(7), 8);
    }

    private static void counts() {
        ShadowCount s = Check.placed("GBm00Bs11Ba22Bt33Bc44Bk55H0905H0000L00L5fL23O0000O0000O0000");
        s.put(3, 9, 5);
        s.sight(1, 1);
        s.sight(2, 2);
        int[] due = {1 + 6 * 4 + 2 * 5 + 3 * 3 + 3 * 5, 7, 2, 7, 2, 1, 3, 0b100101};
        for (int what = 0; what < due.length; what++) {
            check.due("count(" + what + ")", s.count(what), due[what]);
        }
    }

    private static void countOfBytes() {
        ShadowCount s = Check.placed("GBm00");
        check.due("as told", s.count(0), 5);
        s.wipe();
        check.due("wiped", s.count(0), 0);
        s.write(8, 0L);
        check.due("written", s.count(0), 8);
    }

    private static void countOfPeople() {
        int[] heads = {1, 1, 1, 0, 2, 2};
        for (int kind = 0; kind < 6; kind++) {
            ShadowCount s = new ShadowCount();
            s.put(kind, 0, 0);
            check.due("kind " + kind, s.count(3), heads[kind]);
            s.put(kind, 1, 0);
            check.due("two of kind " + kind, s.count(3), 2 * heads[kind]);
            s.take(0);
            check.due("one is away", s.count(3), heads[kind]);
        }
        check.due("eight twins", Check.placed("GBt00Bt10Bt20Bt30Bt40Bt50Bt60Bt70").count(3), 16);
    }

    private static void countsAtTheirMost() {
        ShadowCount s = Check.placed(EIGHT + "H0000H0001H0905L00L10L20L30L40L50O0000O0000O0000O0000");
        Check.write(s, "BBBBBB");
        for (int i = 0; i < 20; i++) {
            s.move(0, i % 2 + 8, 0);
            s.sight(8, 0);
        }
        int[] due = {92, 8, 3, 9, 6, 16, 4, 63};
        for (int what = 0; what < due.length; what++) {
            check.due("count(" + what + ")", s.count(what), due[what]);
        }
    }

    private static void countOfCliffs() {
        for (int y = 0; y < 6; y++) {
            check.due("a cliff in row " + y, Check.placed("GL" + y + "0").count(7), 1 << y);
        }
    }

    private static void countOutside() {
        ShadowCount s = new ShadowCount();
        int[] outside = {-1, 8, Integer.MIN_VALUE, Integer.MAX_VALUE};
        for (int what : outside) {
            check.due("count(" + what + ")", s.count(what), OUTSIDE);
        }
    }
}

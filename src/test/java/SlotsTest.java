/** Promises 26 to 28. */
public final class SlotsTest {
    private static final Check check = new Check();
    private static final int OUTSIDE = -2, STATE = -3, UNKNOWN = -1;

    public static void main(String[] args) {
        keep();
        again();
        slotsAreApart();
        whatIsNotKept();
        count();
        check.end("SlotsTest");
    }

    private static void keep() {
        ShadowCount s = Check.placed("GBm00Bc11");
        s.put(2, 2, 2);
        check.due("keep(-1)", s.keep(-1), UNKNOWN);
        check.due("keep(2)", s.keep(2), UNKNOWN);
        check.due("keep(0)", s.keep(0), 3);
        check.due("acts stay", s.count(5), 1);
        check.due("and can be taken back", s.back(), 0);
        check.due("keep(1)", s.keep(1), 2);
        check.due("keep(0) once more", s.keep(0), 2);
        check.due("it is the newer", s.again(0), 2);
    }

    private static void again() {
        ShadowCount s = Check.placed("GBm00Bc11");
        check.due("again(-1)", s.again(-1), UNKNOWN);
        check.due("again(2)", s.again(2), UNKNOWN);
        check.due("again(0)", s.again(0), STATE);
        s.sight(10, 14);
        s.sight(9, 2);
        s.keep(0);
        s.move(0, 5, 5);
        s.take(1);
        s.unsee();
        s.sight(8, 1);
        check.due("again(1)", s.again(1), STATE);
        check.due("refused: acts stay", s.count(5), 2);
        check.due("again(0)", s.again(0), 2);
        check.due("no acts", s.count(5), 0);
        check.due("back", s.back(), STATE);
        check.due("x of the first", s.body(0, 1), 0);
        check.due("y of the first", s.body(0, 2), 0);
        check.due("kind of the second", s.body(1, 0), 1);
        check.due("x of the second", s.body(1, 1), 1);
        check.due("sights", s.count(4), 2);
        check.due("as they were", s.fits(), 12);
        s.move(0, 7, 3);
        s.sight(8, 1);
        check.due("a second time", s.again(0), 2);
        check.due("what was kept did not move", s.body(0, 1), 0);
        check.due("what was kept saw no more", s.fits(), 12);
    }

    private static void slotsAreApart() {
        ShadowCount s = new ShadowCount();
        check.due("keep nothing", s.keep(0), 0);
        s.put(4, 3, 2);
        s.sight(0, 0);
        check.due("keep one", s.keep(1), 1);
        check.due("slot 0", s.again(0), 0);
        check.due("no sights", s.count(4), 0);
        check.due("slot 1", s.again(1), 1);
        check.due("a cart", s.body(0, 0), 4);
        check.due("one sight", s.count(4), 1);
    }

    private static void whatIsNotKept() {
        ShadowCount s = Check.placed("GH0905L33O1122");
        s.keep(0);
        s.write(2, 0x4242L);
        s.again(0);
        check.due("the text is as it is", s.count(0), 16);
        check.due("hills", s.count(2), 1);
        check.due("clouds", s.count(6), 1);
        check.due("cliffs", s.count(7), 8);
        Check.rewrite(s, "GBx");
        check.due("no place", s.place(), STATE);
        check.due("still kept", s.again(0), 0);
        Check.rewrite(s, "G");
        s.place();
        check.due("gone with a new place", s.again(0), STATE);
    }

    private static void count() {
        ShadowCount s = Check.placed("GBm00Bs11Ba22Bt33Bc44Bk55H0905H0000L00L5fL23O0000O0000O0000");
        s.put(3, 9, 5);
        s.sight(1, 1);
        s.sight(2, 2);
        int[] due = {1 + 6 * 4 + 2 * 5 + 3 * 3 + 3 * 5, 7, 2, 7, 2, 1, 3, 0b100101};
        for (int what = 0; what < due.length; what++) {
            check.due("count(" + what + ")", s.count(what), due[what]);
        }
        check.due("count(8)", s.count(8), OUTSIDE);
        check.due("count(-1)", s.count(-1), OUTSIDE);
        check.due("count(MAX)", s.count(Integer.MAX_VALUE), OUTSIDE);
        s.take(3);
        check.due("people without the twins", s.count(3), 5);
    }
}

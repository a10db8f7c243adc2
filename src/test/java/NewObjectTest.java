/** Promise 1. */
public final class NewObjectTest {
    private static final Check check = new Check("NewObjectTest");
    private static final int STATE = -3, UNKNOWN = -1, NONE = -9;

    public static void main(String[] args) {
        check.test("an empty field: nothing is there", NewObjectTest::nothingIsThere);
        check.test("an empty field: nothing is dark", NewObjectTest::nothingIsDark);
        check.test("at first the place is G, but the text is empty", NewObjectTest::textIsEmpty);
        check.test("no acts", NewObjectTest::noActs);
        check.test("no sights", NewObjectTest::noSights);
        check.test("nothing is kept", NewObjectTest::nothingIsKept);
        check.test("at first the place is G", NewObjectTest::placeIsG);
        check.test("objects share nothing", NewObjectTest::objectsShareNothing);
        check.end();
    }

    private static void nothingIsThere() {
        ShadowCount s = new ShadowCount();
        for (int what = 0; what < 8; what++) {
            check.due("count(" + what + ")", s.count(what), 0);
        }
        check.due("body(0, 0)", s.body(0, 0), UNKNOWN);
        check.due("hill(0, 0)", s.hill(0, 0), UNKNOWN);
        check.due("take(0)", s.take(0), UNKNOWN);
        check.due("move(0, 0, 0)", s.move(0, 0, 0), UNKNOWN);
        check.due("shadow(0, 0)", s.shadow(0, 0), UNKNOWN);
        check.due("runs(0, 0)", s.runs(0, 0), UNKNOWN);
        check.due("run(0, 0, 0, 0)", s.run(0, 0, 0, 0), UNKNOWN);
        check.due("counted(0, 0)", s.counted(0, 0), UNKNOWN);
        check.due("best(0)", s.best(0), UNKNOWN);
    }

    private static void nothingIsDark() {
        ShadowCount s = new ShadowCount();
        for (int minute = 0; minute < 16; minute++) {
            for (int y = 0; y < 6; y++) {
                check.due("dark(" + minute + ", " + y + ")", s.dark(minute, y), 0);
            }
            check.due("alone(" + minute + ")", s.alone(minute), 0);
            check.due("hide(" + minute + ")", s.hide(minute), 0);
        }
    }

    private static void textIsEmpty() {
        ShadowCount s = new ShadowCount();
        check.due("fault()", s.fault(), 0);
        check.due("place()", s.place(), STATE);
        check.due("wipe()", s.wipe(), 0);
    }

    private static void noActs() {
        check.due("back()", new ShadowCount().back(), STATE);
    }

    private static void noSights() {
        ShadowCount s = new ShadowCount();
        check.due("fits()", s.fits(), 59049);
        check.due("people(false)", s.people(false), 0);
        check.due("people(true)", s.people(true), 10);
        check.due("sure()", s.sure(), 0);
        check.holds("next() is some minute", s.next() != NONE);
        check.due("unsee()", s.unsee(), 0);
    }

    private static void nothingIsKept() {
        ShadowCount s = new ShadowCount();
        check.due("again(0)", s.again(0), STATE);
        check.due("again(1)", s.again(1), STATE);
    }

    private static void placeIsG() {
        String told = Story.of(s -> {
            s.write(1, 'G');
            s.place();
            s.wipe();
        });
        check.same("the place G", told, Story.of(s -> { }));
    }

    private static void objectsShareNothing() {
        ShadowCount busy = Check.placed("GBm00H0905L11O0000");
        ShadowCount idle = new ShadowCount();
        busy.put(0, 1, 1);
        busy.sight(0, 0);
        busy.keep(0);
        for (int what = 0; what < 8; what++) {
            check.due("count(" + what + ")", idle.count(what), 0);
        }
        check.due("again(0)", idle.again(0), STATE);
    }
}

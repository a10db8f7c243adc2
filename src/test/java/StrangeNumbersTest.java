/**
 * Every call with every number near an edge and far off, against the slow model: no call throws, and of several
 * refusals the first that the call names is answered. And an object answers as told up to its 512th call.
 */
public final class StrangeNumbersTest {
    private static final Check check = new Check("StrangeNumbersTest");
    private static final int[] NUMBERS = {Integer.MIN_VALUE, Integer.MIN_VALUE + 1, -65536, -257, -16, -9, -4, -2, -1,
        0, 1, 2, 3, 4, 5, 6, 7, 8, 9, 10, 11, 15, 16, 17, 255, 256, 1023, 1024, 65536, 1 << 30, Integer.MAX_VALUE};
    private static final String[] PLACES = {"G", "GBm00Bc31Bk22Bs53Ba64Bt85H0905H2312L21O4523O670b",
        "GBm00Bc11Bk22Bs33Ba44Bt55Bm65Bc75H0905H0302H4915L06L5fO1123O4423O6623O8823"};
    private static final int MOST_CALLS = 512;

    /** The same call on the program and on the model. */
    interface Call {
        void on(ShadowCount s, Model m);
    }

    private final String place;
    private ShadowCount s;
    private Model m;

    private StrangeNumbersTest(String place) {
        this.place = place;
    }

    public static void main(String[] args) {
        for (String place : PLACES) {
            check.test("one number, " + place, () -> new StrangeNumbersTest(place).oneNumber());
            check.test("two numbers, " + place, () -> new StrangeNumbersTest(place).twoNumbers());
            check.test("three numbers, " + place, () -> new StrangeNumbersTest(place).threeNumbers());
            check.test("the numbers of run, " + place, () -> new StrangeNumbersTest(place).numbersOfRun());
        }
        check.test("an object is used for 512 calls", StrangeNumbersTest::lastCalls);
        check.end();
    }

    private void make() {
        s = new ShadowCount();
        m = new Model();
        Check.write(s, place);
        for (char sign : place.toCharArray()) {
            m.write(1, sign);
        }
        check.due("place", s.place(), m.place());
    }

    private void same(String call, int got, int due) {
        check.due(call, got, due);
        check.due("bodies after " + call, s.count(1), m.count(1));
        check.due("bytes after " + call, s.count(0), m.count(0));
        check.due("sights after " + call, s.count(4), m.count(4));
        check.due("acts after " + call, s.count(5), m.count(5));
    }

    private void oneNumber() {
        for (int a : NUMBERS) {
            make();
            same("alone(" + a + ")", s.alone(a), m.alone(a));
            same("best(" + a + ")", s.best(a), m.best(a));
            same("hide(" + a + ")", s.hide(a), m.hide(a));
            same("count(" + a + ")", s.count(a), m.count(a));
            same("take(" + a + ")", s.take(a), m.take(a));
            same("again(" + a + ")", s.again(a), m.again(a));
            same("keep(" + a + ")", s.keep(a), m.keep(a));
            same("again(" + a + ")", s.again(a), m.again(a));
        }
    }

    private void twoNumbers() {
        for (int a : NUMBERS) {
            for (int b : NUMBERS) {
                make();
                String told = "(" + a + ", " + b + ")";
                same("body" + told, s.body(a, b), m.body(a, b));
                same("hill" + told, s.hill(a, b), m.hill(a, b));
                same("shadow" + told, s.shadow(a, b), m.shadow(a, b));
                same("dark" + told, s.dark(a, b), m.dark(a, b));
                same("runs" + told, s.runs(a, b), m.runs(a, b));
                same("counted" + told, s.counted(a, b), m.counted(a, b));
                same("sight" + told, s.sight(a, b), m.sight(a, b));
                same("write" + told, s.write(a, b), m.write(a, b));
            }
        }
    }

    private void threeNumbers() {
        for (int a : NUMBERS) {
            for (int b : NUMBERS) {
                make();
                for (int c : NUMBERS) {
                    String told = "(" + a + ", " + b + ", " + c + ")";
                    same("put" + told, s.put(a, b, c), m.put(a, b, c));
                    same("move" + told, s.move(a, b, c), m.move(a, b, c));
                }
            }
        }
    }

    private void numbersOfRun() {
        make();
        int calls = 0;
        for (int hill = -2; hill <= 4; hill++) {
            for (int minute = -2; minute <= 17; minute++) {
                for (int i : NUMBERS) {
                    for (int what = -2; what <= 4; what++) {
                        String told = "run(" + hill + ", " + minute + ", " + i + ", " + what + ")";
                        check.due(told, s.run(hill, minute, i, what), m.run(hill, minute, i, what));
                        calls++;
                        if (calls % 400 == 0) {
                            make();
                        }
                    }
                }
            }
        }
    }

    /** One object that does everything again and again, the last call being its 512th. */
    private static void lastCalls() {
        ShadowCount s = new ShadowCount();
        int calls = 0;
        while (calls + 16 <= MOST_CALLS) {
            check.due("wipe", s.wipe(), calls == 0 ? 0 : 10);
            check.due("write", s.write(8, Check.bytes("GBm50H09")), 8);
            check.due("write", s.write(2, Check.bytes("05")), 10);
            check.due("place", s.place(), 1);
            check.due("put", s.put(1, 0, 0), 1);
            check.due("move", s.move(1, 1, 1), 2);
            check.due("keep", s.keep(0), 2);
            check.due("take", s.take(0), 1);
            check.due("again", s.again(0), 2);
            check.due("dark", s.dark(6, 1), 1);
            check.due("sight", s.sight(10, 14), 1);
            check.due("fits", s.fits(), 15);
            check.due("next", s.next(), 6);
            check.due("unsee", s.unsee(), 1);
            check.due("back", s.back(), -3);
            check.due("counted", s.counted(0, 6), 2);
            calls += 16;
        }
        check.due("calls", calls, MOST_CALLS);
    }
}

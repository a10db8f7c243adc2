/** Promises 8 to 11. */
public final class ActsTest {
    private static final Check check = new Check("ActsTest");
    private static final int OUTSIDE = -2, STATE = -3, FULL = -4, UNKNOWN = -1;
    private static final int[] FAR = {Integer.MIN_VALUE, Integer.MAX_VALUE};
    private static final String EIGHT = "GBm00Bc11Bk22Bs33Ba44Bt55Bm65Bc75";
    private static final String EIGHT_BODIES = "m00 c11 k22 s33 a44 t55 m65 c75";

    public static void main(String[] args) {
        check.test("put: it comes behind the others, its number", ActsTest::putBehindTheOthers);
        check.test("put: kind (0 to 5)", ActsTest::putKinds);
        check.test("put: kind below and above", ActsTest::putKindOutside);
        check.test("put: x (0 to 9), y (0 to 5)", ActsTest::putInEveryCell);
        check.test("put: x outside", ActsTest::putXOutside);
        check.test("put: y outside", ActsTest::putYOutside);
        check.test("put: STATE, there is one", ActsTest::putWhereOneIs);
        check.test("put: a cell that was left is free", ActsTest::putWhereOneWas);
        check.test("put: FULL, 8", ActsTest::putTheNinth);
        check.test("put: OUTSIDE is named ahead of STATE", ActsTest::putOutsideAheadOfState);
        check.test("put: OUTSIDE is named ahead of FULL", ActsTest::putOutsideAheadOfFull);
        check.test("put: STATE is named ahead of FULL", ActsTest::putStateAheadOfFull);
        check.test("move: by how many cells, both ways together", ActsTest::moveTellsTheWay);
        check.test("move: only that body goes", ActsTest::moveOnlyOne);
        check.test("move: UNKNOWN", ActsTest::moveUnknown);
        check.test("move: x outside", ActsTest::moveXOutside);
        check.test("move: y outside", ActsTest::moveYOutside);
        check.test("move: STATE, there is one", ActsTest::moveWhereOneIs);
        check.test("move: STATE, itself, too", ActsTest::moveWhereItIs);
        check.test("move: of 8 one may go", ActsTest::moveOfEight);
        check.test("move: UNKNOWN is named ahead of OUTSIDE", ActsTest::moveUnknownAheadOfOutside);
        check.test("move: UNKNOWN is named ahead of STATE", ActsTest::moveUnknownAheadOfState);
        check.test("take: how many there are, down to 0", ActsTest::takeAll);
        check.test("take: those behind it are one less", ActsTest::takeRenumbers);
        check.test("take: UNKNOWN", ActsTest::takeUnknown);
        backTests();
        check.end();
    }

    private static void backTests() {
        check.test("back: STATE, there is none", ActsTest::backOfNone);
        check.test("back: of a body put", ActsTest::backOfPut);
        check.test("back: of a body moved", ActsTest::backOfMove);
        check.test("back: of each of eight bodies taken", ActsTest::backOfTake);
        check.test("back: the last act first", ActsTest::backInOrder);
        check.test("back: how many are left", ActsTest::backTellsHowMany);
        check.test("back: it is no act itself", ActsTest::backIsNoAct);
        check.test("back: what was refused is no act", ActsTest::refusedIsNoAct);
        check.test("back: what is no act can't be taken back", ActsTest::othersAreNoActs);
        check.test("acts: 16 at most", ActsTest::sixteenActs);
        check.test("acts: of more the first one is forgotten", ActsTest::firstIsForgotten);
        check.test("acts: a body whose coming is forgotten stays", ActsTest::forgottenPut);
        check.test("acts: a body whose going is forgotten is away", ActsTest::forgottenTake);
        check.test("acts: forgotten, then taken back, then more", ActsTest::goingRound);
    }

    private static void putBehindTheOthers() {
        ShadowCount s = Check.placed("GBm00");
        check.due("put(5, 9, 5)", s.put(5, 9, 5), 1);
        check.due("put(1, 0, 5)", s.put(1, 0, 5), 2);
        check.same("bodies", Check.bodies(s), "m00 t95 c05");
        check.due("the first of all", new ShadowCount().put(0, 0, 0), 0);
    }

    private static void putKinds() {
        ShadowCount s = new ShadowCount();
        for (int kind = 0; kind <= 5; kind++) {
            check.due("put(" + kind + ", ..)", s.put(kind, kind, 0), kind);
        }
        check.same("bodies", Check.bodies(s), "m00 c10 k20 s30 a40 t50");
    }

    private static void putKindOutside() {
        ShadowCount s = new ShadowCount();
        check.due("put(-1, 1, 1)", s.put(-1, 1, 1), OUTSIDE);
        check.due("put(6, 1, 1)", s.put(6, 1, 1), OUTSIDE);
        for (int kind : FAR) {
            check.due("put(" + kind + ", 1, 1)", s.put(kind, 1, 1), OUTSIDE);
        }
        check.due("bodies", s.count(1), 0);
    }

    private static void putInEveryCell() {
        ShadowCount s = new ShadowCount();
        for (int cell = 0; cell < 60; cell++) {
            check.due("put in " + cell, s.put(0, cell % 10, cell / 10), 0);
            check.due("x", s.body(0, 1), cell % 10);
            check.due("y", s.body(0, 2), cell / 10);
            s.take(0);
        }
    }

    private static void putXOutside() {
        ShadowCount s = new ShadowCount();
        check.due("put(0, -1, 1)", s.put(0, -1, 1), OUTSIDE);
        check.due("put(0, 10, 1)", s.put(0, 10, 1), OUTSIDE);
        for (int x : FAR) {
            check.due("put(0, " + x + ", 1)", s.put(0, x, 1), OUTSIDE);
        }
        check.due("bodies", s.count(1), 0);
    }

    private static void putYOutside() {
        ShadowCount s = new ShadowCount();
        check.due("put(0, 1, -1)", s.put(0, 1, -1), OUTSIDE);
        check.due("put(0, 1, 6)", s.put(0, 1, 6), OUTSIDE);
        for (int y : FAR) {
            check.due("put(0, 1, " + y + ")", s.put(0, 1, y), OUTSIDE);
        }
        check.due("bodies", s.count(1), 0);
    }

    private static void putWhereOneIs() {
        ShadowCount s = Check.placed("GBm00Bs95");
        check.due("where the first is", s.put(1, 0, 0), STATE);
        check.due("where the last is", s.put(1, 9, 5), STATE);
        check.due("in its column", s.put(1, 0, 5), 2);
        check.due("in its row", s.put(1, 9, 0), 3);
        check.due("where one was put", s.put(1, 0, 5), STATE);
    }

    private static void putWhereOneWas() {
        ShadowCount s = Check.placed("GBm00Bs95");
        s.move(0, 1, 0);
        check.due("where one went from", s.put(1, 0, 0), 2);
        check.due("where it went to", s.put(1, 1, 0), STATE);
        s.take(1);
        check.due("where one was taken", s.put(1, 9, 5), 2);
        s.back();
        check.due("where one was put and taken back", s.put(4, 9, 5), 2);
    }

    private static void putTheNinth() {
        ShadowCount s = new ShadowCount();
        for (int i = 0; i < 8; i++) {
            check.due("put", s.put(3, i, 0), i);
        }
        check.due("the ninth", s.put(0, 9, 0), FULL);
        check.due("bodies", s.count(1), 8);
        check.due("a ninth behind eight that were told", Check.placed(EIGHT).put(0, 9, 0), FULL);
        s.take(3);
        check.due("one is away", s.put(0, 9, 0), 7);
        check.due("the ninth once more", s.put(0, 9, 5), FULL);
    }

    private static void putOutsideAheadOfState() {
        ShadowCount s = Check.placed("GBm00");
        check.due("put(6, 0, 0)", s.put(6, 0, 0), OUTSIDE);
        check.due("put(-1, 0, 0)", s.put(-1, 0, 0), OUTSIDE);
    }

    private static void putOutsideAheadOfFull() {
        ShadowCount s = Check.placed(EIGHT);
        check.due("put(6, 9, 0)", s.put(6, 9, 0), OUTSIDE);
        check.due("put(0, 10, 0)", s.put(0, 10, 0), OUTSIDE);
        check.due("put(0, 9, 6)", s.put(0, 9, 6), OUTSIDE);
    }

    private static void putStateAheadOfFull() {
        ShadowCount s = Check.placed(EIGHT);
        check.due("put(0, 0, 0)", s.put(0, 0, 0), STATE);
        check.due("put(0, 7, 5)", s.put(0, 7, 5), STATE);
    }

    private static void moveTellsTheWay() {
        ShadowCount s = Check.placed("GBm00");
        int[][] ways = {{9, 5, 14}, {0, 0, 14}, {1, 0, 1}, {1, 1, 1}, {0, 1, 1}, {0, 0, 1}, {9, 0, 9}, {9, 5, 5}, {8, 3, 3}, {9, 1, 3}};
        for (int[] way : ways) {
            check.due("move to " + way[0] + ", " + way[1], s.move(0, way[0], way[1]), way[2]);
            check.same("it stands there", Check.bodies(s), "m" + way[0] + way[1]);
        }
    }

    private static void moveOnlyOne() {
        ShadowCount s = Check.placed("GBm00Bc11Bt22");
        s.move(1, 9, 5);
        check.same("bodies", Check.bodies(s), "m00 c95 t22");
    }

    private static void moveUnknown() {
        ShadowCount s = Check.placed("GBm00Bc11");
        check.due("move(2, 5, 5)", s.move(2, 5, 5), UNKNOWN);
        check.due("move(-1, 5, 5)", s.move(-1, 5, 5), UNKNOWN);
        for (int body : FAR) {
            check.due("move(" + body + ", 5, 5)", s.move(body, 5, 5), UNKNOWN);
        }
        check.due("move(8, 9, 0) of eight", Check.placed(EIGHT).move(8, 9, 0), UNKNOWN);
        check.same("bodies", Check.bodies(s), "m00 c11");
    }

    private static void moveXOutside() {
        ShadowCount s = Check.placed("GBm00");
        check.due("move(0, -1, 0)", s.move(0, -1, 0), OUTSIDE);
        check.due("move(0, 10, 0)", s.move(0, 10, 0), OUTSIDE);
        for (int x : FAR) {
            check.due("move(0, " + x + ", 0)", s.move(0, x, 0), OUTSIDE);
        }
        check.same("bodies", Check.bodies(s), "m00");
    }

    private static void moveYOutside() {
        ShadowCount s = Check.placed("GBm00");
        check.due("move(0, 0, -1)", s.move(0, 0, -1), OUTSIDE);
        check.due("move(0, 0, 6)", s.move(0, 0, 6), OUTSIDE);
        for (int y : FAR) {
            check.due("move(0, 0, " + y + ")", s.move(0, 0, y), OUTSIDE);
        }
        check.same("bodies", Check.bodies(s), "m00");
    }

    private static void moveWhereOneIs() {
        ShadowCount s = Check.placed("GBm00Bc95");
        check.due("the first to the last", s.move(0, 9, 5), STATE);
        check.due("the last to the first", s.move(1, 0, 0), STATE);
        check.same("bodies", Check.bodies(s), "m00 c95");
    }

    private static void moveWhereItIs() {
        ShadowCount s = Check.placed("GBm00Bc95");
        check.due("the first", s.move(0, 0, 0), STATE);
        check.due("the last", s.move(1, 9, 5), STATE);
        check.due("acts", s.count(5), 0);
    }

    private static void moveOfEight() {
        ShadowCount s = Check.placed(EIGHT);
        check.due("the last of eight", s.move(7, 8, 5), 1);
        check.due("the first of eight", s.move(0, 1, 0), 1);
    }

    private static void moveUnknownAheadOfOutside() {
        ShadowCount s = Check.placed("GBm00");
        check.due("move(1, 10, 0)", s.move(1, 10, 0), UNKNOWN);
        check.due("move(-1, 0, 6)", s.move(-1, 0, 6), UNKNOWN);
    }

    private static void moveUnknownAheadOfState() {
        check.due("move(1, 0, 0)", Check.placed("GBm00").move(1, 0, 0), UNKNOWN);
    }

    private static void takeAll() {
        ShadowCount s = Check.placed(EIGHT);
        for (int left = 7; left >= 0; left--) {
            check.due("take(0)", s.take(0), left);
            check.due("bodies", s.count(1), left);
        }
        check.due("take(0) of none", s.take(0), UNKNOWN);
    }

    private static void takeRenumbers() {
        String[] after = {"c11 t22", "m00 t22", "m00 c11"};
        for (int body = 0; body < 3; body++) {
            ShadowCount s = Check.placed("GBm00Bc11Bt22");
            check.due("take(" + body + ")", s.take(body), 2);
            check.same("after take(" + body + ")", Check.bodies(s), after[body]);
            check.due("body(2, 0)", s.body(2, 0), UNKNOWN);
        }
    }

    private static void takeUnknown() {
        ShadowCount s = Check.placed("GBm00Bc11");
        check.due("take(2)", s.take(2), UNKNOWN);
        check.due("take(-1)", s.take(-1), UNKNOWN);
        for (int body : FAR) {
            check.due("take(" + body + ")", s.take(body), UNKNOWN);
        }
        check.due("take(8) of eight", Check.placed(EIGHT).take(8), UNKNOWN);
        check.same("bodies", Check.bodies(s), "m00 c11");
    }

    private static void backOfNone() {
        check.due("a new object", new ShadowCount().back(), STATE);
        ShadowCount s = Check.placed("GBm00");
        check.due("bodies that were told are no acts", s.back(), STATE);
        s.take(0);
        s.back();
        check.due("all are taken back", s.back(), STATE);
        check.same("bodies", Check.bodies(s), "m00");
    }

    private static void backOfPut() {
        ShadowCount s = Check.placed("GBm00");
        s.put(1, 1, 1);
        check.due("back", s.back(), 0);
        check.same("bodies", Check.bodies(s), "m00");
        ShadowCount eighth = Check.placed(EIGHT.substring(0, 29));
        eighth.put(0, 9, 0);
        eighth.back();
        check.due("the eighth", eighth.count(1), 7);
    }

    private static void backOfMove() {
        ShadowCount s = Check.placed("GBm00Bc95");
        s.move(1, 0, 1);
        check.due("back", s.back(), 0);
        check.same("bodies", Check.bodies(s), "m00 c95");
        ShadowCount eight = Check.placed(EIGHT);
        eight.move(3, 9, 0);
        eight.back();
        check.same("of eight", Check.bodies(eight), EIGHT_BODIES);
    }

    private static void backOfTake() {
        for (int body = 0; body < 8; body++) {
            ShadowCount s = Check.placed(EIGHT);
            s.take(body);
            check.due("back of take(" + body + ")", s.back(), 0);
            check.same("bodies", Check.bodies(s), EIGHT_BODIES);
        }
    }

    private static void backInOrder() {
        ShadowCount s = Check.placed("GBm00Bc11Bk22");
        s.take(1);
        s.move(1, 9, 0);
        s.put(5, 1, 1);
        s.take(0);
        s.move(1, 7, 0);
        String[] due = {"k90 t11", "m00 k90 t11", "m00 k90", "m00 k22", "m00 c11 k22"};
        for (String bodies : due) {
            s.back();
            check.same("bodies", Check.bodies(s), bodies);
        }
    }

    private static void backTellsHowMany() {
        ShadowCount s = Check.placed("GBm00");
        s.put(0, 1, 0);
        s.move(0, 2, 0);
        s.take(0);
        for (int left = 2; left >= 0; left--) {
            check.due("back", s.back(), left);
            check.due("acts", s.count(5), left);
        }
    }

    private static void backIsNoAct() {
        ShadowCount s = Check.placed("GBm00");
        s.move(0, 1, 0);
        s.move(0, 2, 0);
        s.back();
        s.back();
        check.due("acts", s.count(5), 0);
        check.due("back", s.back(), STATE);
        check.same("bodies", Check.bodies(s), "m00");
    }

    private static void refusedIsNoAct() {
        ShadowCount s = Check.placed(EIGHT);
        s.put(9, 9, 0);
        s.put(0, 0, 0);
        s.put(0, 9, 0);
        s.move(0, 0, 0);
        s.move(0, 0, 9);
        s.move(8, 9, 0);
        s.take(8);
        check.due("acts", s.count(5), 0);
        check.due("back", s.back(), STATE);
    }

    private static void othersAreNoActs() {
        ShadowCount s = Check.placed("GBm00H0905");
        s.sight(10, 14);
        s.unsee();
        s.keep(0);
        s.write(1, 'G');
        s.wipe();
        s.hide(3);
        s.best(0);
        check.due("acts", s.count(5), 0);
        check.due("back", s.back(), STATE);
    }

    /** A body is put, then goes from cell to cell: so many acts in all. */
    private static ShadowCount afterActs(int acts) {
        ShadowCount s = new ShadowCount();
        s.put(0, 0, 0);
        for (int i = 1; i < acts; i++) {
            s.move(0, i % 10, i / 10);
        }
        return s;
    }

    private static void sixteenActs() {
        for (int acts = 1; acts <= 40; acts++) {
            check.due("acts of " + acts, afterActs(acts).count(5), Math.min(acts, 16));
        }
        ShadowCount s = afterActs(16);
        for (int left = 15; left >= 0; left--) {
            check.due("back", s.back(), left);
        }
        check.due("all sixteen are taken back", s.count(1), 0);
    }

    private static void firstIsForgotten() {
        for (int acts = 17; acts <= 40; acts++) {
            ShadowCount s = afterActs(acts);
            for (int left = 15; left >= 0; left--) {
                check.due("back of " + acts, s.back(), left);
            }
            check.due("back of none, of " + acts, s.back(), STATE);
            int first = acts - 17;
            check.same("before the last sixteen of " + acts, Check.bodies(s), "m" + first % 10 + first / 10);
        }
    }

    private static void forgottenPut() {
        ShadowCount s = afterActs(17);
        for (int i = 0; i < 20; i++) {
            s.back();
        }
        check.same("bodies", Check.bodies(s), "m00");
    }

    private static void forgottenTake() {
        ShadowCount s = Check.placed("GBm00Bc11");
        s.take(0);
        for (int i = 1; i <= 16; i++) {
            s.move(0, i % 10, 4);
        }
        for (int i = 0; i < 20; i++) {
            s.back();
        }
        check.same("bodies", Check.bodies(s), "c11");
    }

    private static void goingRound() {
        ShadowCount s = afterActs(25);
        for (int i = 0; i < 10; i++) {
            s.back();
        }
        check.due("six are left", s.count(5), 6);
        check.same("as after fifteen", Check.bodies(s), "m41");
        for (int i = 0; i < 12; i++) {
            s.put(i % 6, i % 10, 5);
            s.take(1);
        }
        check.due("sixteen again", s.count(5), 16);
        for (int left = 15; left >= 0; left--) {
            check.due("back", s.back(), left);
        }
        check.same("bodies", Check.bodies(s), "m41");
    }
}

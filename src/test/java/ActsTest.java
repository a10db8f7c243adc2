/** Promises 8 to 11. */
public final class ActsTest {
    private static final Check check = new Check();
    private static final int OUTSIDE = -2, STATE = -3, FULL = -4, UNKNOWN = -1;

    public static void main(String[] args) {
        put();
        move();
        take();
        back();
        backOfEverySort();
        sixteenActs();
        refusedActsAreNone();
        check.end("ActsTest");
    }

    private static void stands(ShadowCount s, int body, int kind, int x, int y) {
        check.due("kind of " + body, s.body(body, 0), kind);
        check.due("x of " + body, s.body(body, 1), x);
        check.due("y of " + body, s.body(body, 2), y);
    }

    private static void put() {
        ShadowCount s = Check.placed("GBm00");
        check.due("put(5, 9, 5)", s.put(5, 9, 5), 1);
        stands(s, 1, 5, 9, 5);
        stands(s, 0, 0, 0, 0);
        check.due("put(-1, 1, 1)", s.put(-1, 1, 1), OUTSIDE);
        check.due("put(6, 1, 1)", s.put(6, 1, 1), OUTSIDE);
        check.due("put(0, -1, 1)", s.put(0, -1, 1), OUTSIDE);
        check.due("put(0, 10, 1)", s.put(0, 10, 1), OUTSIDE);
        check.due("put(0, 1, -1)", s.put(0, 1, -1), OUTSIDE);
        check.due("put(0, 1, 6)", s.put(0, 1, 6), OUTSIDE);
        check.due("put(6, 0, 0): OUTSIDE is first", s.put(6, 0, 0), OUTSIDE);
        check.due("put(1, 0, 0)", s.put(1, 0, 0), STATE);
        check.due("put(1, 9, 5)", s.put(1, 9, 5), STATE);
        for (int i = 2; i < 8; i++) {
            check.due("put(3, " + i + ", 0)", s.put(3, i, 0), i);
        }
        check.due("the ninth", s.put(0, 9, 0), FULL);
        check.due("the ninth in a cell with one", s.put(0, 0, 0), STATE);
        check.due("the ninth outside", s.put(0, 0, 6), OUTSIDE);
        check.due("eight", s.count(1), 8);
    }

    private static void move() {
        ShadowCount s = Check.placed("GBm00Bc95");
        check.due("move(0, 9, 4)", s.move(0, 9, 4), 13);
        stands(s, 0, 0, 9, 4);
        check.due("move(0, 7, 4)", s.move(0, 7, 4), 2);
        check.due("move(0, 8, 2)", s.move(0, 8, 2), 3);
        check.due("move(0, 0, 0)", s.move(0, 0, 0), 10);
        check.due("into the other", s.move(0, 9, 5), STATE);
        check.due("into itself", s.move(1, 9, 5), STATE);
        check.due("move(2, 0, 0)", s.move(2, 0, 0), UNKNOWN);
        check.due("move(-1, 10, 0)", s.move(-1, 10, 0), UNKNOWN);
        check.due("move(0, 10, 0)", s.move(0, 10, 0), OUTSIDE);
        check.due("move(0, -1, 0)", s.move(0, -1, 0), OUTSIDE);
        check.due("move(0, 0, 6)", s.move(0, 0, 6), OUTSIDE);
        check.due("move(0, 0, -1)", s.move(0, 0, -1), OUTSIDE);
        stands(s, 0, 0, 0, 0);
        stands(s, 1, 1, 9, 5);
    }

    private static void take() {
        ShadowCount s = Check.placed("GBm00Bc11Bk22Bs33");
        check.due("take(4)", s.take(4), UNKNOWN);
        check.due("take(-1)", s.take(-1), UNKNOWN);
        check.due("take(1)", s.take(1), 3);
        stands(s, 0, 0, 0, 0);
        stands(s, 1, 2, 2, 2);
        stands(s, 2, 3, 3, 3);
        check.due("body(3, 0)", s.body(3, 0), UNKNOWN);
        check.due("its cell is free", s.put(4, 1, 1), 3);
        check.due("take(3)", s.take(3), 3);
        check.due("take(0)", s.take(0), 2);
        check.due("take(0)", s.take(0), 1);
        check.due("take(0)", s.take(0), 0);
        check.due("take(0)", s.take(0), UNKNOWN);
    }

    private static void back() {
        ShadowCount s = Check.placed("GBm00");
        check.due("back without acts", s.back(), STATE);
        s.put(1, 1, 1);
        s.move(1, 2, 2);
        s.take(0);
        check.due("three acts", s.count(5), 3);
        check.due("back: take", s.back(), 2);
        stands(s, 0, 0, 0, 0);
        stands(s, 1, 1, 2, 2);
        check.due("back: move", s.back(), 1);
        stands(s, 1, 1, 1, 1);
        check.due("back: put", s.back(), 0);
        check.due("one body", s.count(1), 1);
        stands(s, 0, 0, 0, 0);
        check.due("back", s.back(), STATE);
        check.due("what is taken back is no act", s.count(5), 0);
    }

    private static void backOfEverySort() {
        ShadowCount s = Check.placed("GBm00Bc11Bk22Bs33Ba44Bt55Bm65");
        s.take(2);
        s.move(2, 9, 0);
        s.put(5, 8, 0);
        s.take(0);
        s.move(5, 7, 0);
        for (int left = 4; left >= 0; left--) {
            check.due("back", s.back(), left);
        }
        int[][] due = {{0, 0, 0}, {1, 1, 1}, {2, 2, 2}, {3, 3, 3}, {4, 4, 4}, {5, 5, 5}, {0, 6, 5}};
        check.due("seven bodies", s.count(1), 7);
        for (int i = 0; i < due.length; i++) {
            stands(s, i, due[i][0], due[i][1], due[i][2]);
        }
    }

    private static void sixteenActs() {
        ShadowCount s = new ShadowCount();
        s.put(0, 0, 0);
        for (int i = 1; i <= 19; i++) {
            s.move(0, i % 10, i / 10);
            check.due("acts in the row", s.count(5), Math.min(16, i + 1));
        }
        for (int left = 15; left >= 0; left--) {
            check.due("back", s.back(), left);
        }
        check.due("back", s.back(), STATE);
        stands(s, 0, 0, 3, 0);
        s.take(0);
        check.due("again an act", s.count(5), 1);
        check.due("and back", s.back(), 0);
        stands(s, 0, 0, 3, 0);
    }

    private static void refusedActsAreNone() {
        ShadowCount s = Check.placed("GBm00");
        s.put(0, 0, 0);
        s.put(9, 0, 0);
        s.move(0, 0, 0);
        s.move(0, 0, 9);
        s.move(3, 0, 1);
        s.take(3);
        check.due("no acts", s.count(5), 0);
        check.due("back", s.back(), STATE);
    }
}

/** Terms: "What is refused changes nothing", for every refusal of every call; and calls that only ask change nothing. */
public final class RefusalsTest {
    private static final Check check = new Check("RefusalsTest");
    private static final int UNKNOWN = -1, OUTSIDE = -2, STATE = -3, FULL = -4;

    interface Call {
        int on(ShadowCount s);
    }

    private final String name;
    private final Story.Run state;
    private final String before;

    private RefusalsTest(String name, Story.Run state) {
        this.name = name;
        this.state = state;
        before = Story.of(state);
    }

    public static void main(String[] args) {
        RefusalsTest bare = new RefusalsTest("a new object", s -> { });
        RefusalsTest rich = new RefusalsTest("a field with all sorts", States::makeRich);
        RefusalsTest full = new RefusalsTest("a full field", States::makeFull);
        RefusalsTest open = new RefusalsTest("a text that is not at its end", States::makeOpen);
        check.test("a full field", RefusalsTest::fullIsFull);
        bare.refusalsOfNothing();
        open.refused("place", STATE, s -> s.place());
        full.refusalsOfAFullField();
        RefusalsTest[] fields = {rich, full};
        for (RefusalsTest field : fields) {
            field.numbersOfBodies();
            field.numbersOfHills();
            field.actsOutside();
            field.minutesOutside();
            field.othersOutside();
            field.numbersOfSlots();
            field.asked();
        }
        rich.refused("again(1), not kept", STATE, s -> s.again(1));
        check.end();
    }

    private static void fullIsFull() {
        ShadowCount s = new ShadowCount();
        States.makeFull(s);
        int[] due = {92, 8, 3, 9, 6, 16, 4, 0b100001};
        for (int what = 0; what < due.length; what++) {
            check.due("count(" + what + ")", s.count(what), due[what]);
        }
    }

    private void refused(String call, int want, Call made) {
        check.test(name + ": " + call, () -> {
            ShadowCount s = new ShadowCount();
            state.on(s);
            check.due("it", made.on(s), want);
            unchanged(made);
        });
    }

    private void unchanged(Call made) {
        check.same("the object", Story.of(s -> {
            state.on(s);
            made.on(s);
        }), before);
    }

    private void refusalsOfNothing() {
        refused("place", STATE, s -> s.place());
        refused("back", STATE, s -> s.back());
        refused("again(0)", STATE, s -> s.again(0));
        refused("again(1)", STATE, s -> s.again(1));
        refused("body(0, 0)", UNKNOWN, s -> s.body(0, 0));
        refused("hill(0, 0)", UNKNOWN, s -> s.hill(0, 0));
        refused("move(0, 0, 0)", UNKNOWN, s -> s.move(0, 0, 0));
        refused("take(0)", UNKNOWN, s -> s.take(0));
        refused("write(0, ..)", OUTSIDE, s -> s.write(0, 'G'));
        refused("write(9, ..)", OUTSIDE, s -> s.write(9, 'G'));
        refused("put(6, 0, 0)", OUTSIDE, s -> s.put(6, 0, 0));
        refused("sight(16, 0)", OUTSIDE, s -> s.sight(16, 0));
        refused("keep(2)", UNKNOWN, s -> s.keep(2));
    }

    private void refusalsOfAFullField() {
        refused("write(1, ..)", FULL, s -> s.write(1, 'G'));
        refused("write(8, ..)", FULL, s -> s.write(8, 0L));
        refused("place", STATE, s -> s.place());
        refused("put(0, 0, 0)", FULL, s -> s.put(0, 0, 0));
        refused("sight(8, 0)", FULL, s -> s.sight(8, 0));
        refused("sight(0, 1023)", FULL, s -> s.sight(0, 1023));
    }

    private void numbersOfBodies() {
        int[] unknown = {-1, 8};
        for (int body : unknown) {
            refused("body(" + body + ", 0)", UNKNOWN, s -> s.body(body, 0));
            refused("move(" + body + ", 0, 0)", UNKNOWN, s -> s.move(body, 0, 0));
            refused("take(" + body + ")", UNKNOWN, s -> s.take(body));
            refused("shadow(" + body + ", 0)", UNKNOWN, s -> s.shadow(body, 0));
        }
    }

    private void numbersOfHills() {
        int[] unknown = {-1, 3};
        for (int hill : unknown) {
            refused("hill(" + hill + ", 0)", UNKNOWN, s -> s.hill(hill, 0));
            refused("runs(" + hill + ", 0)", UNKNOWN, s -> s.runs(hill, 0));
            refused("run(" + hill + ", 0, 0, 0)", UNKNOWN, s -> s.run(hill, 0, 0, 0));
            refused("counted(" + hill + ", 0)", UNKNOWN, s -> s.counted(hill, 0));
            refused("best(" + hill + ")", UNKNOWN, s -> s.best(hill));
        }
    }

    private void actsOutside() {
        refused("put(-1, 0, 0)", OUTSIDE, s -> s.put(-1, 0, 0));
        refused("put(6, 0, 0)", OUTSIDE, s -> s.put(6, 0, 0));
        refused("put(0, 10, 0)", OUTSIDE, s -> s.put(0, 10, 0));
        refused("put(0, 0, 6)", OUTSIDE, s -> s.put(0, 0, 6));
        refused("put where one is", STATE, s -> s.put(0, s.body(0, 1), s.body(0, 2)));
        refused("move(0, -1, 0)", OUTSIDE, s -> s.move(0, -1, 0));
        refused("move(0, 10, 0)", OUTSIDE, s -> s.move(0, 10, 0));
        refused("move(0, 0, 6)", OUTSIDE, s -> s.move(0, 0, 6));
        refused("move where it is", STATE, s -> s.move(1, s.body(1, 1), s.body(1, 2)));
        refused("move where another is", STATE, s -> s.move(1, s.body(0, 1), s.body(0, 2)));
    }

    private void minutesOutside() {
        int[] outside = {-1, 16};
        for (int minute : outside) {
            refused("shadow(0, " + minute + ")", OUTSIDE, s -> s.shadow(0, minute));
            refused("dark(" + minute + ", 0)", OUTSIDE, s -> s.dark(minute, 0));
            refused("runs(0, " + minute + ")", OUTSIDE, s -> s.runs(0, minute));
            refused("run(0, " + minute + ", 0, 0)", OUTSIDE, s -> s.run(0, minute, 0, 0));
            refused("alone(" + minute + ")", OUTSIDE, s -> s.alone(minute));
            refused("counted(0, " + minute + ")", OUTSIDE, s -> s.counted(0, minute));
            refused("hide(" + minute + ")", OUTSIDE, s -> s.hide(minute));
            refused("sight(" + minute + ", 0)", OUTSIDE, s -> s.sight(minute, 0));
        }
    }

    private void othersOutside() {
        refused("write(0, ..)", OUTSIDE, s -> s.write(0, 'G'));
        refused("write(9, ..)", OUTSIDE, s -> s.write(9, 'G'));
        refused("body(0, 5)", OUTSIDE, s -> s.body(0, 5));
        refused("hill(0, 4)", OUTSIDE, s -> s.hill(0, 4));
        refused("dark(0, 6)", OUTSIDE, s -> s.dark(0, 6));
        refused("run(0, 0, 0, 3)", OUTSIDE, s -> s.run(0, 0, 0, 3));
        refused("sight(0, 1024)", OUTSIDE, s -> s.sight(0, 1024));
        refused("sight(0, -1)", OUTSIDE, s -> s.sight(0, -1));
        refused("count(8)", OUTSIDE, s -> s.count(8));
        refused("count(-1)", OUTSIDE, s -> s.count(-1));
    }

    private void numbersOfSlots() {
        int[] unknown = {-1, 2};
        for (int slot : unknown) {
            refused("keep(" + slot + ")", UNKNOWN, s -> s.keep(slot));
            refused("again(" + slot + ")", UNKNOWN, s -> s.again(slot));
        }
    }

    private void asked() {
        Call[] asking = {s -> s.fault(), s -> s.body(0, 1), s -> s.hill(0, 1), s -> s.shadow(0, 3), s -> s.dark(3, 0),
            s -> s.runs(0, 3), s -> s.run(0, 3, 0, 2), s -> s.alone(3), s -> s.counted(0, 3), s -> s.best(0), s -> s.hide(3),
            s -> s.fits(), s -> s.people(false), s -> s.people(true), s -> s.sure(), s -> s.next(), s -> s.count(3)};
        for (int i = 0; i < asking.length; i++) {
            Call call = asking[i];
            check.test(name + ": asking " + i, () -> unchanged(call));
        }
    }
}

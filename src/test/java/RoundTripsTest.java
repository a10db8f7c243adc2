/** Calls change what they tell and nothing else: done and undone, everything is as it was. */
public final class RoundTripsTest {
    private static final Check check = new Check("RoundTripsTest");

    public static void main(String[] args) {
        roundTrip("write, wipe and the same text", s -> {
            s.write(8, -1L);
            s.wipe();
            Check.write(s, States.TEXT_OF_RICH);
        });
        roundTrip("unsee and the same sights", s -> {
            s.unsee();
            s.sight(10, 14);
            s.sight(9, 2);
        });
        roundTrip("sight, unsee and the same sights", s -> {
            s.sight(0, 0);
            s.unsee();
            s.sight(10, 14);
            s.sight(9, 2);
        });
        roundTrip("put and back", s -> {
            s.put(5, 9, 5);
            s.back();
        });
        roundTrip("move and back", s -> {
            s.move(3, 9, 5);
            s.back();
        });
        roundTrip("take and back", s -> {
            s.take(3);
            s.back();
        });
        roundTrip("acts of every sort and back", s -> {
            s.take(0);
            s.put(4, 0, 0);
            s.move(4, 1, 0);
            s.back();
            s.back();
            s.back();
        });
        check.test("keep again changes nothing", RoundTripsTest::keptTwice);
        check.test("again, where nothing was changed", RoundTripsTest::againUnchanged);
        check.test("place again changes nothing", RoundTripsTest::placedTwice);
        check.end();
    }

    private static void roundTrip(String name, Story.Run calls) {
        check.test(name, () -> check.same("the object", Story.of(s -> {
            States.makeRich(s);
            calls.on(s);
        }), Story.of(States::makeRich)));
    }

    private static void makeKept(ShadowCount s) {
        States.makeRich(s);
        s.keep(1);
    }

    private static void keptTwice() {
        check.same("the object", Story.of(s -> {
            makeKept(s);
            s.keep(1);
        }), Story.of(RoundTripsTest::makeKept));
    }

    private static void makeAgain(ShadowCount s) {
        makeKept(s);
        s.again(1);
    }

    private static void againUnchanged() {
        check.same("the object", Story.of(s -> {
            makeAgain(s);
            s.again(1);
        }), Story.of(RoundTripsTest::makeAgain));
        check.same("after other acts and sights", Story.of(s -> {
            makeAgain(s);
            s.take(0);
            s.unsee();
            s.again(1);
        }), Story.of(RoundTripsTest::makeAgain));
    }

    private static void makePlaced(ShadowCount s) {
        States.makeRich(s);
        s.place();
    }

    private static void placedTwice() {
        check.same("the object", Story.of(s -> {
            makePlaced(s);
            s.place();
        }), Story.of(RoundTripsTest::makePlaced));
        check.same("after acts and a slot", Story.of(s -> {
            makePlaced(s);
            s.put(0, 0, 0);
            s.keep(0);
            s.place();
        }), Story.of(RoundTripsTest::makePlaced));
    }
}

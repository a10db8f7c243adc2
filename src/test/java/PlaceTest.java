/** Promises 5 to 7. */
public final class PlaceTest {
    private static final Check check = new Check("PlaceTest");
    private static final int OUTSIDE = -2, STATE = -3, UNKNOWN = -1;
    private static final String RICH = "GBm00Bc11H0905L35O2347";

    public static void main(String[] args) {
        check.test("place: how many bodies, from 0 to 8", PlaceTest::howManyBodies);
        check.test("place: bodies are numbered as they are told", PlaceTest::bodiesInOrder);
        check.test("place: hills likewise", PlaceTest::hillsInOrder);
        check.test("place: the text is the place, nothing else", PlaceTest::nothingElseIsLeft);
        check.test("place: a cliff of an earlier place makes no shade", PlaceTest::earlierCliff);
        check.test("place: a cloud of an earlier place makes no shade", PlaceTest::earlierCloud);
        check.test("place: no acts", PlaceTest::noActs);
        check.test("place: what was kept is gone", PlaceTest::keptIsGone);
        check.test("place: sights stay", PlaceTest::sightsStay);
        check.test("place: the text stays", PlaceTest::textStays);
        check.test("place: the place is as the text was then", PlaceTest::laterText);
        check.test("place: a second time it is as told again", PlaceTest::secondTime);
        check.test("place: STATE, a fault", PlaceTest::faultIsRefused);
        check.test("place: STATE changes nothing", PlaceTest::refusedChangesNothing);
        check.test("body: kind, x, y, how high, how many are counted", PlaceTest::bodyTells);
        check.test("body: UNKNOWN", PlaceTest::unknownBody);
        check.test("body: OUTSIDE", PlaceTest::outsideOfBody);
        check.test("body: UNKNOWN is named ahead of OUTSIDE", PlaceTest::unknownBodyFirst);
        check.test("hill: a, b, c, d", PlaceTest::hillTells);
        check.test("hill: UNKNOWN", PlaceTest::unknownHill);
        check.test("hill: OUTSIDE", PlaceTest::outsideOfHill);
        check.test("hill: UNKNOWN is named ahead of OUTSIDE", PlaceTest::unknownHillFirst);
        check.end();
    }

    private static void place(ShadowCount s, String text, int want) {
        Check.rewrite(s, text);
        check.due("place of '" + text + "'", s.place(), want);
    }

    private static void howManyBodies() {
        ShadowCount s = new ShadowCount();
        StringBuilder text = new StringBuilder("G");
        for (int bodies = 0; bodies <= 8; bodies++) {
            place(s, text.toString(), bodies);
            check.due("bodies", s.count(1), bodies);
            text.append("Bs").append(bodies).append(3);
        }
        place(s, "GH0905", 0);
    }

    private static void bodiesInOrder() {
        ShadowCount s = Check.placed("GBt95H0905Bm00L11Bc43");
        check.same("bodies", Check.bodies(s), "t95 m00 c43");
    }

    private static void hillsInOrder() {
        ShadowCount s = Check.placed("GH9955Bm00H1324L11H0000");
        int[][] due = {{9, 9, 5, 5}, {1, 3, 2, 4}, {0, 0, 0, 0}};
        for (int hill = 0; hill < 3; hill++) {
            for (int what = 0; what < 4; what++) {
                check.due("hill(" + hill + ", " + what + ")", s.hill(hill, what), due[hill][what]);
            }
        }
    }

    private static void nothingElseIsLeft() {
        ShadowCount s = Check.placed(RICH);
        check.due("hills", s.count(2), 1);
        check.due("clouds", s.count(6), 1);
        check.due("cliffs", s.count(7), 8);
        s.put(0, 5, 5);
        place(s, "G", 0);
        for (int what = 1; what < 8; what++) {
            check.due("count(" + what + ")", s.count(what), 0);
        }
        check.due("body(0, 0)", s.body(0, 0), UNKNOWN);
        check.due("hill(0, 0)", s.hill(0, 0), UNKNOWN);
    }

    private static void earlierCliff() {
        ShadowCount s = Check.placed("GBm93L3f");
        check.due("in its shade", s.dark(0, 3), 0);
        place(s, "GBm93", 1);
        check.due("without it", s.dark(0, 3), 511);
        place(s, "GBm93L4f", 1);
        check.due("one in another row", s.dark(0, 3), 511);
        check.due("rows with a cliff", s.count(7), 16);
    }

    private static void earlierCloud() {
        ShadowCount s = Check.placed("GBm93O090f");
        check.due("under it", s.dark(0, 3), 0);
        place(s, "GBm93O0000", 1);
        check.due("under another", s.dark(0, 3), 510);
        place(s, "GBm93", 1);
        check.due("without it", s.dark(0, 3), 511);
    }

    private static void noActs() {
        ShadowCount s = Check.placed(RICH);
        s.put(0, 5, 5);
        s.take(0);
        check.due("acts", s.count(5), 2);
        s.place();
        check.due("acts after place", s.count(5), 0);
        check.due("back", s.back(), STATE);
        check.same("bodies", Check.bodies(s), "m00 c11");
    }

    private static void keptIsGone() {
        ShadowCount s = Check.placed(RICH);
        s.keep(0);
        s.keep(1);
        s.place();
        check.due("again(0)", s.again(0), STATE);
        check.due("again(1)", s.again(1), STATE);
        check.due("kept anew", s.keep(1), 2);
        check.due("again(1)", s.again(1), 2);
        check.due("again(0)", s.again(0), STATE);
    }

    private static void sightsStay() {
        ShadowCount s = Check.seen(10, 14, 9, 2);
        place(s, RICH, 2);
        check.due("sights", s.count(4), 2);
        check.due("fits", s.fits(), 12);
    }

    private static void textStays() {
        ShadowCount s = Check.placed("GBm00");
        check.due("bytes", s.count(0), 5);
        Check.write(s, "Ba95Bk85");
        check.due("place goes on from it", s.place(), 3);
        check.same("bodies", Check.bodies(s), "m00 a95 k85");
    }

    private static void laterText() {
        ShadowCount s = Check.placed(RICH);
        Check.rewrite(s, "GBt73");
        s.fault();
        check.same("bodies", Check.bodies(s), "m00 c11");
        check.due("hills", s.count(2), 1);
    }

    private static void secondTime() {
        ShadowCount s = Check.placed(RICH);
        s.move(0, 9, 5);
        s.take(1);
        check.due("place", s.place(), 2);
        check.same("bodies", Check.bodies(s), "m00 c11");
    }

    private static void faultIsRefused() {
        ShadowCount s = new ShadowCount();
        String[] faults = {"", "X", "GX", "GB", "GBm00Bc00", "GBm0", "GH10", "GL00L0", "GO0010", "G" + "O0000".repeat(5)};
        for (String text : faults) {
            place(s, text, STATE);
        }
        place(s, "G", 0);
    }

    private static void refusedChangesNothing() {
        ShadowCount s = Check.placed(RICH);
        s.put(0, 5, 5);
        s.sight(3, 5);
        s.keep(0);
        place(s, "GBt99H0000H0000O0000O0000L00L0", STATE);
        check.same("bodies", Check.bodies(s), "m00 c11 m55");
        check.due("hills", s.count(2), 1);
        check.due("hill(0, 1)", s.hill(0, 1), 9);
        check.due("sights", s.count(4), 1);
        check.due("acts", s.count(5), 1);
        check.due("clouds", s.count(6), 1);
        check.due("cliffs", s.count(7), 8);
        check.due("what was kept", s.again(0), 3);
    }

    private static void bodyTells() {
        ShadowCount s = Check.placed("GBm01Bc12Bk23Bs34Ba45Bt90");
        int[][] due = {{0, 0, 1, 6, 1}, {1, 1, 2, 3, 1}, {2, 2, 3, 3, 1}, {3, 3, 4, 6, 0}, {4, 4, 5, 4, 2}, {5, 9, 0, 6, 2}};
        for (int body = 0; body < due.length; body++) {
            for (int what = 0; what < 5; what++) {
                check.due("body(" + body + ", " + what + ")", s.body(body, what), due[body][what]);
            }
        }
    }

    private static void unknownBody() {
        ShadowCount s = Check.placed("GBm00Bc11");
        int[] unknown = {-1, 2, 7, 8, Integer.MIN_VALUE, Integer.MAX_VALUE};
        for (int body : unknown) {
            check.due("body(" + body + ", 0)", s.body(body, 0), UNKNOWN);
        }
        ShadowCount eight = Check.placed("GBm00Bm10Bm20Bm30Bm40Bm50Bm60Bt70");
        check.due("body(7, 0) of eight", eight.body(7, 0), 5);
        check.due("body(8, 0) of eight", eight.body(8, 0), UNKNOWN);
        check.due("body(0, 0) of none", Check.placed("G").body(0, 0), UNKNOWN);
    }

    private static void outsideOfBody() {
        ShadowCount s = Check.placed("GBm00");
        int[] outside = {-1, 5, Integer.MIN_VALUE, Integer.MAX_VALUE};
        for (int what : outside) {
            check.due("body(0, " + what + ")", s.body(0, what), OUTSIDE);
        }
    }

    private static void unknownBodyFirst() {
        ShadowCount s = Check.placed("GBm00");
        check.due("body(1, 5)", s.body(1, 5), UNKNOWN);
        check.due("body(-1, -1)", s.body(-1, -1), UNKNOWN);
    }

    private static void hillTells() {
        ShadowCount s = Check.placed("GH1325H0905");
        int[] due = {1, 3, 2, 5};
        for (int what = 0; what < 4; what++) {
            check.due("hill(0, " + what + ")", s.hill(0, what), due[what]);
        }
    }

    private static void unknownHill() {
        ShadowCount s = Check.placed("GH1324H5605");
        int[] unknown = {-1, 2, 3, Integer.MIN_VALUE, Integer.MAX_VALUE};
        for (int hill : unknown) {
            check.due("hill(" + hill + ", 0)", s.hill(hill, 0), UNKNOWN);
        }
        ShadowCount three = Check.placed("GH1324H5605H7805");
        check.due("hill(2, 0) of three", three.hill(2, 0), 7);
        check.due("hill(3, 0) of three", three.hill(3, 0), UNKNOWN);
        check.due("hill(0, 0) of none", Check.placed("G").hill(0, 0), UNKNOWN);
    }

    private static void outsideOfHill() {
        ShadowCount s = Check.placed("GH1324");
        int[] outside = {-1, 4, Integer.MIN_VALUE, Integer.MAX_VALUE};
        for (int what : outside) {
            check.due("hill(0, " + what + ")", s.hill(0, what), OUTSIDE);
        }
    }

    private static void unknownHillFirst() {
        ShadowCount s = Check.placed("GH1324");
        check.due("hill(1, 4)", s.hill(1, 4), UNKNOWN);
        check.due("hill(-1, -1)", s.hill(-1, -1), UNKNOWN);
    }
}

/** Promises 1 to 7. */
public final class PlaceTest {
    private static final Check check = new Check();
    private static final int OUTSIDE = -2, STATE = -3, FULL = -4, UNKNOWN = -1, NONE = -9;

    public static void main(String[] args) {
        newObject();
        write();
        wipe();
        faultOfFormsAndSigns();
        faultOfBodies();
        faultOfHills();
        faultOfCliffs();
        faultOfClouds();
        faultIsTheFirst();
        place();
        body();
        hill();
        check.end("PlaceTest");
    }

    private static void newObject() {
        ShadowCount s = new ShadowCount();
        for (int what = 0; what < 8; what++) {
            check.due("new: count(" + what + ")", s.count(what), 0);
        }
        for (int minute = 0; minute < 16; minute++) {
            check.due("new: dark", s.dark(minute, 3), 0);
            check.due("new: alone", s.alone(minute), 0);
            check.due("new: hide", s.hide(minute), 0);
        }
        check.due("new: fits", s.fits(), 59049);
        check.due("new: back", s.back(), STATE);
        check.due("new: again(0)", s.again(0), STATE);
        check.due("new: again(1)", s.again(1), STATE);
        check.due("new: body", s.body(0, 0), UNKNOWN);
        check.due("new: hill", s.hill(0, 0), UNKNOWN);
        check.due("new: fault", s.fault(), 0);
        ShadowCount other = new ShadowCount();
        s.put(0, 0, 0);
        check.due("objects share nothing", other.count(1), 0);
    }

    private static void write() {
        ShadowCount s = new ShadowCount();
        check.due("write(0)", s.write(0, 71L), OUTSIDE);
        check.due("write(9)", s.write(9, 71L), OUTSIDE);
        check.due("write(-1)", s.write(-1, 71L), OUTSIDE);
        check.due("write(MIN)", s.write(Integer.MIN_VALUE, 71L), OUTSIDE);
        check.due("write(MAX)", s.write(Integer.MAX_VALUE, 71L), OUTSIDE);
        check.due("nothing came", s.count(0), 0);
        check.due("write(1), the lowest byte", s.write(1, 0x5858585858585847L), 1);
        check.due("it is G", s.fault(), NONE);
        check.due("write(4), the highest first", s.write(4, 0x58426d3132L), 5);
        check.due("it is Bm12", s.place(), 1);
        check.due("x", s.body(0, 1), 1);
        check.due("y", s.body(0, 2), 2);
        check.due("write(8) with the sign bit", s.write(8, -1L), 13);
        check.due("a byte is not below 0", s.fault(), 5);
        s.wipe();
        for (int i = 1; i <= 11; i++) {
            check.due("write(8)", s.write(8, 0L), 8 * i);
        }
        check.due("write(5): 93", s.write(5, 0L), FULL);
        check.due("still 88", s.count(0), 88);
        check.due("write(9) ahead of FULL", s.write(9, 0L), OUTSIDE);
        check.due("write(4): 92", s.write(4, 0L), 92);
        check.due("write(1): 93", s.write(1, 0L), FULL);
        check.due("write(8): 100", s.write(8, 0L), FULL);
        check.due("still 92", s.count(0), 92);
    }

    private static void wipe() {
        ShadowCount s = Check.placed("GBm12H0905");
        check.due("place leaves the text", s.wipe(), 10);
        check.due("wipe again", s.wipe(), 0);
        check.due("wipe leaves the bodies", s.count(1), 1);
        check.due("wipe leaves the hills", s.count(2), 1);
        check.due("count(0)", s.count(0), 0);
    }

    private static void fault(String text, int want) {
        ShadowCount s = new ShadowCount();
        Check.write(s, text);
        check.due("fault of '" + text + "'", s.fault(), want);
        check.due("fault of '" + text + "' again", s.fault(), want);
        check.due("fault changes no text: '" + text + "'", s.count(0), text.length());
        check.due("place of '" + text + "'", want == NONE ? Math.min(s.place(), 0) : s.place(), want == NONE ? 0 : STATE);
    }

    private static void faultOfFormsAndSigns() {
        fault("", 0);
        fault("g", 0);
        fault("B", 0);
        fault("G", NONE);
        fault("GG", 1);
        fault("Gb", 1);
        fault("G ", 1);
        fault("GX000", 1);
        fault("GO00aF", 5);
        fault("GO00a:", 5);
        fault("GO00a/", 5);
        fault("GO00a`", 5);
        fault("GO00ag", 5);
        fault("GO0009", NONE);
        fault("G" + (char) 255, 1);
        fault((char) (128 + 'G') + "", 0);
        fault("G" + (char) (128 + 'B') + "m00", 1);
        fault("GBm0" + (char) (128 + '0'), 4);
    }

    private static void faultOfBodies() {
        fault("GB", 2);
        for (char kind : "mcksat".toCharArray()) {
            fault("GB" + kind, 3);
            fault("GB" + kind + "95", NONE);
        }
        fault("GB0", 2);
        fault("GBM", 2);
        fault("GBf", 2);
        fault("GBma", 3);
        fault("GBm9", 4);
        fault("GBm56", 4);
        fault("GBm5a", 4);
        fault("GBm11Bc11", 8);
        fault("GBm11Bc12", NONE);
        fault("GBm11Bc21", NONE);
        fault("GBm50Bm51Bm52Bm53Bm54Bm5", 24);
        fault("GBm50Bm51Bm52Bm53Bm54Bm55Bm", 27);
        fault("GBm50Bm51Bm52Bm53Bm54Bm55Bm5", 27);
        fault("GBm50Bm51Bm52Bm53Bm54Bm55Bm4", 28);
        fault("GBm50Bm51Bm52Bm53Bm54Bm55Bm45Bc44", NONE);
        fault("GBm50Bm51Bm52Bm53Bm54Bm55Bm45Bc44B", 33);
        fault("GBm50Bm51Bm52Bm53Bm54Bm55Bm45Bc44H0000", NONE);
    }

    private static void faultOfHills() {
        fault("GH", 2);
        fault("GHa", 2);
        fault("GH9", 3);
        fault("GH98", 3);
        fault("GH0a", 3);
        fault("GH99", 4);
        fault("GH995", 5);
        fault("GH996", 4);
        fault("GH9954", 5);
        fault("GH9956", 5);
        fault("GH9955", NONE);
        fault("GH0905H0000H9955", NONE);
        fault("GH0905H0000H9955H", 16);
        fault("GH0905H0000H9955L00", NONE);
    }

    private static void faultOfCliffs() {
        fault("GL", 2);
        fault("GL6", 2);
        fault("GL5", 3);
        fault("GL5f", NONE);
        fault("GL5g", 3);
        fault("GL50L5", 5);
        fault("GL00L0", 5);
        fault("GL0fL1eL2dL3cL4bL5a", NONE);
        fault("GL0fL1eL2dL3cL4bL5aL", 19);
        fault("GL0fL1eL2dL3cL4bL", 17);
    }

    private static void faultOfClouds() {
        fault("GO", 2);
        fault("GOa", 2);
        fault("GO9", 3);
        fault("GO98", 3);
        fault("GO9a", 3);
        fault("GO99", 4);
        fault("GO99g", 4);
        fault("GO99f", 5);
        fault("GO99fe", 5);
        fault("GO99ff", NONE);
        fault("GO99a9", 5);
        fault("GO0000O0000O0000O0000", NONE);
        fault("GO0000O0000O0000O0000O", 21);
        fault("GO0000O0000O0000O0000Bm00", NONE);
    }

    private static void faultIsTheFirst() {
        fault("XBx", 0);
        fault("GBxHa", 2);
        fault("GBm00XBm00", 5);
        fault("GL00H0905O00ffBm00L1", 20);
        fault("GL00H0905O00ffBm00L1a", NONE);
        StringBuilder full = new StringBuilder("G");
        for (int i = 0; i < 8; i++) {
            full.append("Bt").append(i).append(5);
        }
        full.append("H0000H0001H0905L00L10L20L30L40L50O0000O0000O0000O0000");
        check.due("the longest place", full.length(), 86);
        fault(full.toString(), NONE);
        fault(full + "B", 86);
        fault(full + "H", 86);
        fault(full + "L", 86);
        fault(full + "O", 86);
    }

    private static void place() {
        ShadowCount s = Check.placed("GBm00Bc11H0905L35O2347");
        check.due("bodies", s.count(1), 2);
        check.due("hills", s.count(2), 1);
        check.due("clouds", s.count(6), 1);
        check.due("cliffs", s.count(7), 8);
        s.put(0, 5, 5);
        s.sight(3, 5);
        s.keep(0);
        s.keep(1);
        Check.rewrite(s, "GBm00Bc00");
        check.due("place with a fault", s.place(), STATE);
        check.due("acts stay", s.count(5), 1);
        check.due("bodies stay", s.count(1), 3);
        check.due("hills stay", s.count(2), 1);
        check.due("what was kept stays", s.again(0), 3);
        s.put(0, 6, 5);
        Check.rewrite(s, "G");
        check.due("place without bodies", s.place(), 0);
        check.due("no bodies", s.count(1), 0);
        check.due("no hills", s.count(2), 0);
        check.due("no acts", s.count(5), 0);
        check.due("back", s.back(), STATE);
        check.due("no clouds", s.count(6), 0);
        check.due("no cliffs", s.count(7), 0);
        check.due("sights stay", s.count(4), 1);
        check.due("slot 0 is gone", s.again(0), STATE);
        check.due("slot 1 is gone", s.again(1), STATE);
        check.due("the text stays", s.count(0), 1);
        Check.write(s, "Ba95Bk85");
        check.due("place goes on from the text", s.place(), 2);
        check.due("the first body", s.body(0, 0), 4);
        check.due("a cliff of an earlier place makes no shade", Check.placed("GBm93").dark(0, 3), 511);
    }

    private static void body() {
        ShadowCount s = Check.placed("GBm01Bc12Bk23Bs34Ba45Bt50");
        int[][] due = {{0, 0, 1, 6, 1}, {1, 1, 2, 3, 1}, {2, 2, 3, 3, 1}, {3, 3, 4, 6, 0}, {4, 4, 5, 4, 2}, {5, 5, 0, 6, 2}};
        for (int body = 0; body < due.length; body++) {
            for (int what = 0; what < 5; what++) {
                check.due("body(" + body + ", " + what + ")", s.body(body, what), due[body][what]);
            }
        }
        check.due("body(6, 0)", s.body(6, 0), UNKNOWN);
        check.due("body(-1, 0)", s.body(-1, 0), UNKNOWN);
        check.due("body(MIN, 9)", s.body(Integer.MIN_VALUE, 9), UNKNOWN);
        check.due("body(0, 5)", s.body(0, 5), OUTSIDE);
        check.due("body(0, -1)", s.body(0, -1), OUTSIDE);
    }

    private static void hill() {
        ShadowCount s = Check.placed("GH1324H5605H0000");
        int[][] due = {{1, 3, 2, 4}, {5, 6, 0, 5}, {0, 0, 0, 0}};
        for (int hill = 0; hill < due.length; hill++) {
            for (int what = 0; what < 4; what++) {
                check.due("hill(" + hill + ", " + what + ")", s.hill(hill, what), due[hill][what]);
            }
        }
        check.due("hill(3, 0)", s.hill(3, 0), UNKNOWN);
        check.due("hill(-1, 7)", s.hill(-1, 7), UNKNOWN);
        check.due("hill(0, 4)", s.hill(0, 4), OUTSIDE);
        check.due("hill(0, -1)", s.hill(0, -1), OUTSIDE);
    }
}

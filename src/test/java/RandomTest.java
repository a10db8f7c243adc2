import java.util.Random;

/** Runs of chance calls, the same each time, on the program and on the slow model; every answer must be alike. */
public final class RandomTest {
    private static final Check check = new Check("RandomTest");
    private static final int RUNS = 1000, CALLS = 150;

    private final Random random;
    private ShadowCount s = new ShadowCount();
    private Model m = new Model();
    private int row;

    private RandomTest(int seed) {
        random = new Random(seed);
        row = random.nextInt(59049);
    }

    public static void main(String[] args) {
        for (int seed = 0; seed < RUNS; seed++) {
            RandomTest test = new RandomTest(seed);
            test.tellPlace();
            for (int i = 0; i < CALLS; i++) {
                test.call("run " + seed + ", call " + i + ": ");
            }
        }
        for (int seed = 0; seed < 150; seed++) {
            new RandomTest(seed).lookAtRows("sights " + seed + ": ");
        }
        check.end();
    }

    /** A number from below the least to above the most, now and then far off. */
    private int near(int most) {
        int chance = random.nextInt(200);
        if (chance == 0) {
            return random.nextInt();
        }
        return chance < 10 ? random.nextInt(most + 4) - 2 : random.nextInt(most + 1);
    }

    private String part() {
        String columns = range(10);
        switch (random.nextInt(8)) {
            case 0: return "H" + columns + range(6);
            case 1: return "L" + random.nextInt(6) + sign(16);
            case 2: return "O" + columns + range(16);
            default: return "B" + "mcksat".charAt(random.nextInt(6)) + random.nextInt(10) + random.nextInt(random.nextInt(6) + 1);
        }
    }

    private char sign(int limit) {
        return Model.SIGNS.charAt(random.nextInt(limit));
    }

    private String range(int limit) {
        char a = sign(limit);
        char b = sign(limit);
        return a <= b || random.nextInt(8) == 0 ? "" + a + b : "" + b + a;
    }

    private String text() {
        StringBuilder t = new StringBuilder("G");
        for (int parts = random.nextInt(20); parts > 0; parts--) {
            t.append(part());
        }
        if (random.nextInt(6) == 0) {
            t.setCharAt(random.nextInt(t.length()), (char) random.nextInt(256));
        }
        if (random.nextInt(6) == 0) {
            t.setLength(random.nextInt(t.length() + 1));
        }
        return t.toString();
    }

    /** Tells texts until one is a place, as most chance texts have a fault. */
    private void tellPlace() {
        for (int i = 0; i < 50; i++) {
            s = new ShadowCount();
            m = new Model();
            tell("place: ");
            int due = m.place();
            check.due("place: place()", s.place(), due);
            if (due >= 0 && m.count(1) > 1 && m.count(2) > 0) {
                return;
            }
        }
    }

    private void tell(String at) {
        check.due(at + "wipe()", s.wipe(), m.wipe());
        String t = text();
        int from = 0;
        while (from < t.length()) {
            int n = Math.min(t.length() - from, 1 + random.nextInt(8));
            long v = random.nextLong();
            for (int i = 0; i < n; i++) {
                v = v << 8 | t.charAt(from + i);
            }
            check.due(at + "write", s.write(n, v), m.write(n, v));
            from += n;
        }
        check.due(at + "fault() of " + t, s.fault(), m.fault());
    }

    private void call(String at) {
        int a = near(15);
        int b = near(9);
        int c = near(5);
        switch (random.nextInt(26)) {
            case 0: if (random.nextInt(8) == 0) { tell(at); } break;
            case 1: if (random.nextInt(8) == 0) { check.due(at + "place", s.place(), m.place()); } break;
            case 2: check.due(at + "write", s.write(a - 4, 0x47L), m.write(a - 4, 0x47L)); break;
            case 3: check.due(at + "body", s.body(b, c), m.body(b, c)); break;
            case 4: check.due(at + "hill", s.hill(c - 2, b / 2), m.hill(c - 2, b / 2)); break;
            case 5: case 6: check.due(at + "put", s.put(c, b, a % 6), m.put(c, b, a % 6)); break;
            case 7: case 8: check.due(at + "move", s.move(a / 2, b, c), m.move(a / 2, b, c)); break;
            case 9: check.due(at + "take", s.take(b), m.take(b)); break;
            case 10: case 11: check.due(at + "back", s.back(), m.back()); break;
            case 12: check.due(at + "shadow", s.shadow(b, a), m.shadow(b, a)); break;
            case 13: case 14: check.due(at + "dark", s.dark(a, c), m.dark(a, c)); break;
            case 15: check.due(at + "runs", s.runs(c - 1, a), m.runs(c - 1, a)); break;
            case 16: case 17: run(at, c % 3, a); break;
            case 18: check.due(at + "alone", s.alone(a), m.alone(a)); break;
            case 19: check.due(at + "counted", s.counted(c % 3, a), m.counted(c % 3, a)); break;
            case 20: check.due(at + "best", s.best(c - 1), m.best(c - 1)); break;
            case 21: check.due(at + "hide", s.hide(a), m.hide(a)); break;
            case 22: check.due(at + "sight", s.sight(a, 64 * b + a), m.sight(a, 64 * b + a)); break;
            case 23: if (random.nextInt(6) == 0) { check.due(at + "unsee", s.unsee(), m.unsee()); } break;
            case 24: slots(at); break;
            default: break;
        }
        int what = random.nextInt(8);
        check.due(at + "count(" + what + ")", s.count(what), m.count(what));
    }

    private void run(String at, int hill, int minute) {
        int i = near(4);
        int what = near(2);
        check.due(at + "run", s.run(hill, minute, i, what), m.run(hill, minute, i, what));
    }

    private void slots(String at) {
        int slot = near(1);
        boolean keeps = random.nextBoolean();
        check.due(at + "slot", keeps ? s.keep(slot) : s.again(slot), keeps ? m.keep(slot) : m.again(slot));
    }

    /** Sights of one row, so that some rows fit; now and then one that it does not show. */
    private void lookAtRows(String at) {
        if (random.nextInt(3) == 0) {
            row = thin(row);
        }
        for (int looks = random.nextInt(7); looks > 0; looks--) {
            int minute = random.nextInt(16);
            int cells = random.nextInt(25) == 0 ? random.nextInt(1024) : Model.shown(row, minute);
            check.due(at + "sight", s.sight(minute, cells), m.sight(minute, cells));
        }
        check.due(at + "fits", s.fits(), m.fits());
        check.due(at + "people(false)", s.people(false), m.people(false));
        check.due(at + "people(true)", s.people(true), m.people(true));
        check.due(at + "sure", s.sure(), m.sure());
        check.due(at + "next", s.next(), m.next());
    }

    /** A row with fewer people, of which the sights tell more. */
    private int thin(int full) {
        int thinned = 0;
        for (int weight = 1; weight < 59049; weight *= 3) {
            thinned += random.nextInt(3) == 0 ? full / weight % 3 * weight : 0;
        }
        return thinned;
    }
}

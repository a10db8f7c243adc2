/**
 * All that can be learnt of an object after a run of calls, so that two runs can be held one against the other.
 * What is learnt by calls that change the object is learnt of a new one, and none is used for more than 512 calls.
 */
final class Story {
    interface Run {
        void on(ShadowCount s);
    }

    private Story() {
    }

    static String of(Run run) {
        return asked(made(run)) + "\n  acts: " + backwards(made(run)) + "\n  slots: " + kept(made(run))
            + "\n  text: " + placed(made(run));
    }

    private static ShadowCount made(Run run) {
        ShadowCount s = new ShadowCount();
        run.on(s);
        return s;
    }

    private static String asked(ShadowCount s) {
        StringBuilder all = new StringBuilder("counts:");
        for (int what = 0; what < 8; what++) {
            all.append(' ').append(s.count(what));
        }
        all.append(", bodies: ").append(Check.bodies(s));
        return all.append(ground(s)).append(sights(s)).append(", fault: ").append(s.fault()).toString();
    }

    /** Hills, and by what is dark the cliffs and clouds. */
    private static String ground(ShadowCount s) {
        StringBuilder all = new StringBuilder(", hills:");
        for (int hill = 0; hill < s.count(2); hill++) {
            all.append(' ');
            for (int what = 0; what < 4; what++) {
                all.append(s.hill(hill, what));
            }
        }
        all.append(", dark:");
        for (int minute = 0; minute < 16; minute++) {
            for (int y = 0; y < 6; y++) {
                all.append(' ').append(s.dark(minute, y));
            }
        }
        return all.toString();
    }

    private static String sights(ShadowCount s) {
        return ", sights: " + s.count(4) + " " + s.fits() + " " + s.people(false) + " " + s.people(true) + " " + s.sure()
            + " " + s.next();
    }

    private static String backwards(ShadowCount s) {
        StringBuilder all = new StringBuilder();
        int left = 0;
        for (int i = 0; i < 17 && left >= 0; i++) {
            left = s.back();
            all.append(left).append(" (").append(Check.bodies(s)).append(") ");
        }
        return all.toString();
    }

    private static String kept(ShadowCount s) {
        return s.again(0) + " (" + Check.bodies(s) + sights(s) + ") " + s.again(1) + " (" + Check.bodies(s) + sights(s) + ")";
    }

    /** The text as a place; if it is none, with one sign more, which ends a part that is open. */
    private static String placed(ShadowCount s) {
        int bodies = s.place();
        if (bodies < 0) {
            s.write(1, '3');
        }
        return bodies + ", " + s.place() + " (" + Check.bodies(s) + ground(s) + ")";
    }
}

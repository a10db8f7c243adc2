import java.util.ArrayDeque;
import java.util.ArrayList;
import java.util.HashSet;
import java.util.List;
import java.util.Set;

/**
 * The document once more, as slowly as it is told: cell by cell, row by row of the 59049, each completion of a
 * part tried out. It shares no code with the program.
 */
final class Model {
    static final int UNKNOWN = -1, OUTSIDE = -2, STATE = -3, FULL = -4, NONE = -9;
    static final String KINDS = "mcksat", SIGNS = "0123456789abcdef";

    record Body(char kind, int x, int y) {
        int high() {
            return switch (kind) {
                case 'c', 'k' -> 3;
                case 'a' -> 4;
                default -> 6;
            };
        }

        int heads() {
            return switch (kind) {
                case 's' -> 0;
                case 'a', 't' -> 2;
                default -> 1;
            };
        }
    }

    record Place(List<Body> bodies, List<int[]> hills, List<int[]> cliffs, List<int[]> clouds) {
        Place() {
            this(new ArrayList<>(), new ArrayList<>(), new ArrayList<>(), new ArrayList<>());
        }
    }

    record Sight(int minute, int cells) {
    }

    record Kept(List<Body> bodies, List<Sight> sights) {
    }

    private String text = "";
    private Place place = new Place();
    private List<Body> bodies = new ArrayList<>();
    private final ArrayDeque<List<Body>> before = new ArrayDeque<>();
    private List<Sight> sights = new ArrayList<>();
    private final Kept[] kept = new Kept[2];

    // ---- the place

    int write(int n, long v) {
        if (n < 1 || n > 8) {
            return OUTSIDE;
        }
        if (text.length() + n > 92) {
            return FULL;
        }
        String piece = "";
        for (int i = 0; i < n; i++) {
            piece = (char) (v & 0xff) + piece;
            v >>= 8;
        }
        text += piece;
        return text.length();
    }

    int wipe() {
        int was = text.length();
        text = "";
        return was;
    }

    /** The place that a text tells, or null. */
    static Place read(String t) {
        if (t.isEmpty() || t.charAt(0) != 'G') {
            return null;
        }
        Place p = new Place();
        int at = 1;
        while (at < t.length()) {
            int size = "L".indexOf(t.charAt(at)) >= 0 ? 3 : "B".indexOf(t.charAt(at)) >= 0 ? 4 : 5;
            if (at + size > t.length() || !readPart(t.substring(at, at + size), p)) {
                return null;
            }
            at += size;
        }
        boolean few = p.bodies.size() <= 8 && p.hills.size() <= 3 && p.clouds.size() <= 4;
        return few ? p : null;
    }

    private static boolean readPart(String part, Place p) {
        int[] v = new int[part.length() - 1];
        for (int i = 0; i < v.length; i++) {
            v[i] = SIGNS.indexOf(part.charAt(i + 1));
        }
        switch (part.charAt(0)) {
            case 'B':
                if (!part.matches("B[mcksat][0-9][0-5]") || p.bodies.stream().anyMatch(b -> b.x == v[1] && b.y == v[2])) {
                    return false;
                }
                p.bodies.add(new Body(part.charAt(1), v[1], v[2]));
                return true;
            case 'H':
                p.hills.add(v);
                return part.matches("H[0-9]{2}[0-5]{2}") && v[0] <= v[1] && v[2] <= v[3];
            case 'L':
                if (!part.matches("L[0-5][0-9a-f]") || p.cliffs.stream().anyMatch(c -> c[0] == v[0])) {
                    return false;
                }
                p.cliffs.add(v);
                return true;
            case 'O':
                p.clouds.add(v);
                return part.matches("O[0-9]{2}[0-9a-f]{2}") && v[0] <= v[1] && v[2] <= v[3];
            default:
                return false;
        }
    }

    /** Whether some signs behind it make the last, open part one that may come behind the place so far. */
    private static boolean canBecomePart(String part, int size, Place p) {
        if (part.length() == size) {
            return readPart(part, new Place(new ArrayList<>(p.bodies), new ArrayList<>(p.hills),
                new ArrayList<>(p.cliffs), new ArrayList<>(p.clouds)));
        }
        for (char c : (part.equals("B") ? KINDS : SIGNS).toCharArray()) {
            if (canBecomePart(part + c, size, p)) {
                return true;
            }
        }
        return false;
    }

    private static boolean canBecomePart(String part, Place p) {
        switch (part.charAt(0)) {
            case 'B': return p.bodies.size() < 8 && canBecomePart(part, 4, p);
            case 'H': return p.hills.size() < 3 && canBecomePart(part, 5, p);
            case 'L': return canBecomePart(part, 3, p);
            case 'O': return p.clouds.size() < 4 && canBecomePart(part, 5, p);
            default: return false;
        }
    }

    int fault() {
        int good = text.length();
        while (good > 0 && read(text.substring(0, good)) == null) {
            good--;
        }
        if (good == 0) {
            return 0;
        }
        Place p = read(text.substring(0, good));
        for (int size = good + 1; size <= text.length(); size++) {
            if (!canBecomePart(text.substring(good, size), p)) {
                return size - 1;
            }
        }
        return good == text.length() ? NONE : text.length();
    }

    int place() {
        Place told = read(text);
        if (told == null) {
            return STATE;
        }
        place = told;
        bodies = new ArrayList<>(told.bodies);
        before.clear();
        kept[0] = null;
        kept[1] = null;
        return bodies.size();
    }

    int body(int body, int what) {
        if (body < 0 || body >= bodies.size()) {
            return UNKNOWN;
        }
        Body b = bodies.get(body);
        int[] told = {KINDS.indexOf(b.kind), b.x, b.y, b.high(), b.heads()};
        return what < 0 || what > 4 ? OUTSIDE : told[what];
    }

    int hill(int hill, int what) {
        if (noHill(hill)) {
            return UNKNOWN;
        }
        return what < 0 || what > 3 ? OUTSIDE : place.hills.get(hill)[what];
    }

    private boolean noHill(int hill) {
        return hill < 0 || hill >= place.hills.size();
    }

    // ---- acts

    private boolean taken(int x, int y) {
        return bodies.stream().anyMatch(b -> b.x == x && b.y == y);
    }

    private void act(List<Body> after) {
        before.addLast(bodies);
        if (before.size() > 16) {
            before.removeFirst();
        }
        bodies = after;
    }

    int put(int kind, int x, int y) {
        if (kind < 0 || kind > 5 || x < 0 || x > 9 || y < 0 || y > 5) {
            return OUTSIDE;
        }
        if (taken(x, y)) {
            return STATE;
        }
        if (bodies.size() == 8) {
            return FULL;
        }
        List<Body> after = new ArrayList<>(bodies);
        after.add(new Body(KINDS.charAt(kind), x, y));
        act(after);
        return bodies.size() - 1;
    }

    int move(int body, int x, int y) {
        if (body < 0 || body >= bodies.size()) {
            return UNKNOWN;
        }
        if (x < 0 || x > 9 || y < 0 || y > 5) {
            return OUTSIDE;
        }
        if (taken(x, y)) {
            return STATE;
        }
        Body b = bodies.get(body);
        List<Body> after = new ArrayList<>(bodies);
        after.set(body, new Body(b.kind, x, y));
        act(after);
        return Math.abs(b.x - x) + Math.abs(b.y - y);
    }

    int take(int body) {
        if (body < 0 || body >= bodies.size()) {
            return UNKNOWN;
        }
        List<Body> after = new ArrayList<>(bodies);
        after.remove(body);
        act(after);
        return bodies.size();
    }

    int back() {
        if (before.isEmpty()) {
            return STATE;
        }
        bodies = before.removeLast();
        return before.size();
    }

    // ---- shadows

    private static int length(int high, int minute) {
        return high * Math.abs(minute - 8) / 4;
    }

    private static boolean reaches(int high, int from, int minute, int x) {
        int far = minute < 8 ? from - x : x - from;
        return far >= 1 && far <= length(high, minute);
    }

    private boolean sunny(int minute, int x, int y) {
        return place.cliffs.stream().noneMatch(c -> c[0] == y && minute < c[1])
            && place.clouds.stream().noneMatch(c -> c[0] <= x && x <= c[1] && c[2] <= minute && minute <= c[3]);
    }

    private boolean darkCell(List<Body> some, int minute, int x, int y) {
        return sunny(minute, x, y) && some.stream().anyMatch(b -> b.y == y && reaches(b.high(), b.x, minute, x));
    }

    private static boolean noMinute(int minute) {
        return minute < 0 || minute > 15;
    }

    int shadow(int body, int minute) {
        if (body < 0 || body >= bodies.size()) {
            return UNKNOWN;
        }
        return noMinute(minute) ? OUTSIDE : length(bodies.get(body).high(), minute);
    }

    int dark(int minute, int y) {
        if (noMinute(minute) || y < 0 || y > 5) {
            return OUTSIDE;
        }
        int bits = 0;
        for (int x = 0; x < 10; x++) {
            bits += darkCell(bodies, minute, x, y) ? 1 << x : 0;
        }
        return bits;
    }

    private List<int[]> seen(List<Body> some, int hill, int minute) {
        int[] h = place.hills.get(hill);
        List<int[]> found = new ArrayList<>();
        for (int y = h[2]; y <= h[3]; y++) {
            for (int x = h[0]; x <= h[1]; x++) {
                if (!darkCell(some, minute, x, y)) {
                    continue;
                }
                if (x > h[0] && darkCell(some, minute, x - 1, y)) {
                    found.get(found.size() - 1)[2]++;
                } else {
                    found.add(new int[] {y, x, 1});
                }
            }
        }
        return found;
    }

    int runs(int hill, int minute) {
        if (noHill(hill)) {
            return UNKNOWN;
        }
        return noMinute(minute) ? OUTSIDE : seen(bodies, hill, minute).size();
    }

    int run(int hill, int minute, int i, int what) {
        if (noHill(hill)) {
            return UNKNOWN;
        }
        if (noMinute(minute) || what < 0 || what > 2) {
            return OUTSIDE;
        }
        List<int[]> found = seen(bodies, hill, minute);
        return i < 0 || i >= found.size() ? NONE : found.get(i)[what];
    }

    int alone(int minute) {
        if (noMinute(minute)) {
            return OUTSIDE;
        }
        int sum = 0;
        for (Body b : bodies) {
            int own = 0;
            int shared = 0;
            for (int x = 0; x < 10; x++) {
                if (darkCell(List.of(b), minute, x, b.y)) {
                    own++;
                    List<Body> others = new ArrayList<>(bodies);
                    others.remove(b);
                    shared += darkCell(others, minute, x, b.y) ? 1 : 0;
                }
            }
            sum += own > 0 && shared == 0 ? 1 : 0;
        }
        return sum;
    }

    // ---- counted

    private int heads() {
        return bodies.stream().mapToInt(Body::heads).sum();
    }

    int counted(int hill, int minute) {
        if (noHill(hill)) {
            return UNKNOWN;
        }
        if (noMinute(minute)) {
            return OUTSIDE;
        }
        int man = length(6, minute);
        int sum = 0;
        for (int[] r : seen(bodies, hill, minute)) {
            // the nearest whole number, the lower one of two
            sum += r[2] <= man ? 1 : (int) Math.ceil((double) r[2] / man - 0.5);
        }
        return sum;
    }

    int best(int hill) {
        if (noHill(hill)) {
            return UNKNOWN;
        }
        for (int gap = 0; ; gap++) {
            for (int minute = 0; minute < 16; minute++) {
                if (Math.abs(counted(hill, minute) - heads()) == gap) {
                    return minute;
                }
            }
        }
    }

    int hide(int minute) {
        if (noMinute(minute)) {
            return OUTSIDE;
        }
        for (int cell = 0; cell < 60; cell++) {
            if (taken(cell % 10, cell / 10)) {
                continue;
            }
            List<Body> more = new ArrayList<>(bodies);
            more.add(new Body('m', cell % 10, cell / 10));
            boolean same = true;
            for (int hill = 0; hill < place.hills.size(); hill++) {
                same &= told(seen(bodies, hill, minute)).equals(told(seen(more, hill, minute)));
            }
            if (same) {
                return cell;
            }
        }
        return NONE;
    }

    private static String told(List<int[]> found) {
        StringBuilder all = new StringBuilder();
        found.forEach(r -> all.append(r[0]).append(',').append(r[1]).append(',').append(r[2]).append(';'));
        return all.toString();
    }

    // ---- sights

    int sight(int minute, int cells) {
        if (noMinute(minute) || cells < 0 || cells > 1023) {
            return OUTSIDE;
        }
        if (sights.size() == 6) {
            return FULL;
        }
        sights.add(new Sight(minute, cells));
        return sights.size();
    }

    int unsee() {
        int was = sights.size();
        sights = new ArrayList<>();
        return was;
    }

    /** What a row (a digit of base 3 a cell: nobody, a child, a man) shows at a minute. */
    static int shown(int row, int minute) {
        int bits = 0;
        for (int x = 0; x < 10; x++, row /= 3) {
            int high = 3 * (row % 3);
            for (int d = 1; high > 0 && d <= length(high, minute); d++) {
                int cell = minute < 8 ? x - d : x + d;
                bits |= cell >= 0 && cell < 10 ? 1 << cell : 0;
            }
        }
        return bits;
    }

    private static int stands(int row) {
        int bits = 0;
        for (int x = 0; x < 10; x++, row /= 3) {
            bits |= row % 3 > 0 ? 1 << x : 0;
        }
        return bits;
    }

    private List<Integer> fitting() {
        List<Integer> found = new ArrayList<>();
        for (int row = 0; row < 59049; row++) {
            boolean fits = true;
            for (Sight s : sights) {
                fits = fits && shown(row, s.minute) == s.cells;
            }
            if (fits) {
                found.add(row);
            }
        }
        return found;
    }

    int fits() {
        return fitting().size();
    }

    int people(boolean most) {
        int end = NONE;
        for (int row : fitting()) {
            int here = Integer.bitCount(stands(row));
            end = end == NONE ? here : most ? Math.max(end, here) : Math.min(end, here);
        }
        return end;
    }

    int sure() {
        List<Integer> found = fitting();
        int bits = 1023;
        for (int row : found) {
            bits &= stands(row);
        }
        return found.isEmpty() ? NONE : bits;
    }

    int next() {
        List<Integer> found = fitting();
        int best = NONE;
        int most = 0;
        for (int minute = 0; minute < 16; minute++) {
            Set<Integer> unlike = new HashSet<>();
            for (int row : found) {
                unlike.add(shown(row, minute));
            }
            if (unlike.size() > most) {
                most = unlike.size();
                best = minute;
            }
        }
        return best;
    }

    // ---- slots

    int keep(int slot) {
        if (slot < 0 || slot > 1) {
            return UNKNOWN;
        }
        kept[slot] = new Kept(List.copyOf(bodies), List.copyOf(sights));
        return bodies.size();
    }

    int again(int slot) {
        if (slot < 0 || slot > 1) {
            return UNKNOWN;
        }
        if (kept[slot] == null) {
            return STATE;
        }
        bodies = new ArrayList<>(kept[slot].bodies);
        sights = new ArrayList<>(kept[slot].sights);
        before.clear();
        return bodies.size();
    }

    int count(int what) {
        int cliffRows = 0;
        for (int[] c : place.cliffs) {
            cliffRows |= 1 << c[0];
        }
        int[] told = {text.length(), bodies.size(), place.hills.size(), heads(), sights.size(), before.size(),
            place.clouds.size(), cliffRows};
        return what < 0 || what > 7 ? OUTSIDE : told[what];
    }
}

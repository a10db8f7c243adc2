/** People on a field, counted by the shadows that they throw. The document's promises are told by number. */
public final class ShadowCount {
    public static final int UNKNOWN = -1, OUTSIDE = -2, STATE = -3, FULL = -4, NONE = -9;

    private static final int COLUMNS = 10, ROWS = 6, MINUTES = 16, NOON = 8;
    private static final int ALL_CELLS = 1023;
    private static final int MAN = 0, CHILD = 1;
    private static final String KIND_SIGNS = "mcksat";
    private static final int KINDS = 6;
    private static final int[] HEIGHT_OF_KIND = {6, 3, 3, 6, 4, 6};
    private static final int[] HEADS_OF_KIND = {1, 1, 1, 0, 2, 2};
    private static final int SLOTS = 2;

    private final Text text = new Text();
    private final Reader reader = new Reader();
    private final Field field = new Field();
    private final Acts acts = new Acts();
    private final Runs seen = new Runs();
    private final Sights sights = new Sights();
    private final Fits rows = new Fits();
    private final Slot[] slots = {new Slot(), new Slot()};

    /** Promise 1. */
    public ShadowCount() {
    }

    // ---- the place

    /** Promise 2. */
    public int write(int n, long v) {
        if (n < 1 || n > 8) {
            return OUTSIDE;
        }
        if (text.size + n > Text.MOST) {
            return FULL;
        }
        for (int i = n - 1; i >= 0; i--) {
            text.add((int) (v >>> (8 * i)) & 255);
        }
        return text.size;
    }

    /** Promise 3. */
    public int wipe() {
        int before = text.size;
        text.size = 0;
        return before;
    }

    /** Promise 4. */
    public int fault() {
        return reader.firstFault(text);
    }

    /** Promise 5. */
    public int place() {
        if (reader.firstFault(text) != NONE) {
            return STATE;
        }
        field.copyFrom(reader.draft);
        acts.forget();
        for (int i = 0; i < SLOTS; i++) {
            slots[i].filled = false;
        }
        return field.bodies.size;
    }

    /** Promise 6. */
    public int body(int body, int what) {
        Bodies bodies = field.bodies;
        if (!bodies.has(body)) {
            return UNKNOWN;
        }
        switch (what) {
            case 0: return bodies.kind[body];
            case 1: return bodies.x[body];
            case 2: return bodies.y[body];
            case 3: return bodies.height(body);
            case 4: return bodies.heads(body);
            default: return OUTSIDE;
        }
    }

    /** Promise 7. */
    public int hill(int hill, int what) {
        if (!field.ground.hasHill(hill)) {
            return UNKNOWN;
        }
        return isBelow(what, 4) ? field.ground.hills[hill][what] : OUTSIDE;
    }

    // ---- acts

    /** Promise 8. */
    public int put(int kind, int x, int y) {
        Bodies bodies = field.bodies;
        if (!isBelow(kind, KINDS) || !isCell(x, y)) {
            return OUTSIDE;
        }
        if (bodies.standsAt(x, y)) {
            return STATE;
        }
        if (bodies.size >= Bodies.MOST) {
            return FULL;
        }
        int number = bodies.size;
        bodies.insert(number, kind, x, y);
        acts.remember(Acts.PUT, number, bodies);
        return number;
    }

    /** Promise 9. */
    public int move(int body, int x, int y) {
        Bodies bodies = field.bodies;
        if (!bodies.has(body)) {
            return UNKNOWN;
        }
        if (!isCell(x, y)) {
            return OUTSIDE;
        }
        if (bodies.standsAt(x, y)) {
            return STATE;
        }
        int way = Math.abs(x - bodies.x[body]) + Math.abs(y - bodies.y[body]);
        acts.remember(Acts.MOVE, body, bodies);
        bodies.x[body] = x;
        bodies.y[body] = y;
        return way;
    }

    /** Promise 10. */
    public int take(int body) {
        Bodies bodies = field.bodies;
        if (!bodies.has(body)) {
            return UNKNOWN;
        }
        acts.remember(Acts.TAKE, body, bodies);
        bodies.remove(body);
        return bodies.size;
    }

    /** Promise 11. */
    public int back() {
        if (acts.size == 0) {
            return STATE;
        }
        acts.undo(field.bodies);
        return acts.size;
    }

    // ---- shadows

    /** Promise 12. */
    public int shadow(int body, int minute) {
        if (!field.bodies.has(body)) {
            return UNKNOWN;
        }
        return isMinute(minute) ? lengthOfShadow(field.bodies.height(body), minute) : OUTSIDE;
    }

    /** Promise 13. */
    public int dark(int minute, int y) {
        return isMinute(minute) && isBelow(y, ROWS) ? field.darkCells(minute, y) : OUTSIDE;
    }

    /** Promise 14. */
    public int runs(int hill, int minute) {
        if (!field.ground.hasHill(hill)) {
            return UNKNOWN;
        }
        if (!isMinute(minute)) {
            return OUTSIDE;
        }
        seen.look(field, hill, minute);
        return seen.size;
    }

    /** Promise 15. */
    public int run(int hill, int minute, int i, int what) {
        if (!field.ground.hasHill(hill)) {
            return UNKNOWN;
        }
        if (!isMinute(minute) || !isBelow(what, 3)) {
            return OUTSIDE;
        }
        seen.look(field, hill, minute);
        if (!isBelow(i, seen.size)) {
            return NONE;
        }
        if (what == 0) {
            return seen.row[i];
        }
        return what == 1 ? seen.first[i] : seen.length[i];
    }

    /** Promise 16. */
    public int alone(int minute) {
        return isMinute(minute) ? field.lonely(minute) : OUTSIDE;
    }

    // ---- counted

    /** Promise 17. */
    public int counted(int hill, int minute) {
        if (!field.ground.hasHill(hill)) {
            return UNKNOWN;
        }
        return isMinute(minute) ? countByRule(hill, minute) : OUTSIDE;
    }

    /** Promise 18. */
    public int best(int hill) {
        if (!field.ground.hasHill(hill)) {
            return UNKNOWN;
        }
        int people = field.bodies.allHeads();
        int nearest = 0;
        int leastGap = Math.abs(countByRule(hill, 0) - people);
        for (int minute = 1; minute < MINUTES; minute++) {
            int gap = Math.abs(countByRule(hill, minute) - people);
            if (gap < leastGap) {
                leastGap = gap;
                nearest = minute;
            }
        }
        return nearest;
    }

    /** Promise 19. */
    public int hide(int minute) {
        return isMinute(minute) ? field.hiddenCell(minute) : OUTSIDE;
    }

    // ---- sights

    /** Promise 20. */
    public int sight(int minute, int cells) {
        if (!isMinute(minute) || !isBelow(cells, ALL_CELLS + 1)) {
            return OUTSIDE;
        }
        if (sights.size >= Sights.MOST) {
            return FULL;
        }
        sights.add(minute, cells);
        return sights.size;
    }

    /** Promise 21. */
    public int unsee() {
        int before = sights.size;
        sights.size = 0;
        return before;
    }

    /** Promise 22. */
    public int fits() {
        rows.prepare(sights);
        return rows.number();
    }

    /** Promise 23. */
    public int people(boolean most) {
        rows.prepare(sights);
        if (!rows.exist()) {
            return NONE;
        }
        return most ? rows.mostHeads() : rows.fewestHeads();
    }

    /** Promise 24. */
    public int sure() {
        rows.prepare(sights);
        return rows.exist() ? rows.surelyTaken() : NONE;
    }

    /** Promise 25. */
    public int next() {
        rows.prepare(sights);
        return rows.exist() ? rows.tellingMinute() : NONE;
    }

    // ---- slots

    /** Promise 26. */
    public int keep(int slot) {
        if (!isBelow(slot, SLOTS)) {
            return UNKNOWN;
        }
        slots[slot].bodies.copyFrom(field.bodies);
        slots[slot].sights.copyFrom(sights);
        slots[slot].filled = true;
        return field.bodies.size;
    }

    /** Promise 27. */
    public int again(int slot) {
        if (!isBelow(slot, SLOTS)) {
            return UNKNOWN;
        }
        if (!slots[slot].filled) {
            return STATE;
        }
        field.bodies.copyFrom(slots[slot].bodies);
        sights.copyFrom(slots[slot].sights);
        acts.forget();
        return field.bodies.size;
    }

    /** Promise 28. */
    public int count(int what) {
        switch (what) {
            case 0: return text.size;
            case 1: return field.bodies.size;
            case 2: return field.ground.hillCount;
            case 3: return field.bodies.allHeads();
            case 4: return sights.size;
            case 5: return acts.size;
            case 6: return field.ground.cloudCount;
            case 7: return field.ground.cliffRows;
            default: return OUTSIDE;
        }
    }

    // ---- what several calls share

    private int countByRule(int hill, int minute) {
        seen.look(field, hill, minute);
        return seen.headsByRule(lengthOfShadow(HEIGHT_OF_KIND[MAN], minute));
    }

    private static boolean isBelow(int number, int limit) {
        return number >= 0 && number < limit;
    }

    private static boolean isMinute(int minute) {
        return isBelow(minute, MINUTES);
    }

    private static boolean isCell(int x, int y) {
        return isBelow(x, COLUMNS) && isBelow(y, ROWS);
    }

    private static int lengthOfShadow(int height, int minute) {
        return height * Math.abs(minute - NOON) / 4;
    }

    /** The columns, as bits, that the shadow of one so high in column x reaches. */
    private static int reach(int height, int x, int minute) {
        int length = lengthOfShadow(height, minute);
        return minute < NOON ? columnBits(x - length, x - 1) : columnBits(x + 1, x + length);
    }

    /** The columns of the field between two, both with it, as bits; the two may lie beside the field. */
    private static int columnBits(int from, int to) {
        int low = Math.max(from, 0);
        int high = Math.min(to, COLUMNS - 1);
        return low > high ? 0 : (1 << (high + 1)) - (1 << low);
    }

    /** THE TEXT as it is written, whatever it tells. */
    private static final class Text {
        static final int MOST = 92;
        final byte[] bytes = new byte[MOST];
        int size;

        void add(int sign) {
            if (size < MOST) {
                bytes[size] = (byte) sign;
                size++;
            }
        }
    }

    /**
     * Reads THE TEXT sign by sign into a draft, so that the first sign that no PLACE can have there is found
     * with all limits of the PARTS ahead of it known.
     */
    private static final class Reader {
        static final int NO_PART = 0;
        final Field draft = new Field();
        /** What the open part has told up to now. */
        final int[] told = new int[4];
        int toldCount;
        int part;
        boolean begun;

        int firstFault(Text text) {
            draft.clear();
            toldCount = 0;
            part = NO_PART;
            begun = false;
            for (int i = 0; i < text.size; i++) {
                if (!accepts(text.bytes[i] & 255)) {
                    return i;
                }
            }
            return begun && part == NO_PART ? NONE : text.size;
        }

        boolean accepts(int sign) {
            if (!begun) {
                begun = sign == 'G';
                return begun;
            }
            if (part == NO_PART) {
                part = opensPart(sign) ? sign : NO_PART;
                return part != NO_PART;
            }
            int value = part == 'B' && toldCount == 0 ? KIND_SIGNS.indexOf((char) sign) : valueOf(sign);
            if (!isBelow(toldCount, told.length) || !allows(value)) {
                return false;
            }
            told[toldCount] = value;
            toldCount++;
            if (toldCount == signsOfPart()) {
                endPart();
            }
            return true;
        }

        boolean opensPart(int sign) {
            switch (sign) {
                case 'B': return draft.bodies.size < Bodies.MOST;
                case 'H': return draft.ground.hillCount < Ground.MOST_HILLS;
                case 'L': return draft.ground.cliffRows != Ground.ALL_ROWS;
                case 'O': return draft.ground.cloudCount < Ground.MOST_CLOUDS;
                default: return false;
            }
        }

        int signsOfPart() {
            switch (part) {
                case 'B': return 3;
                case 'L': return 2;
                default: return 4;
            }
        }

        boolean allows(int value) {
            switch (part) {
                case 'B': return allowsForBody(value);
                case 'L': return allowsForCliff(value);
                case 'H': return allowsInRange(value, ROWS);
                default: return allowsInRange(value, MINUTES);
            }
        }

        boolean allowsForBody(int value) {
            if (toldCount == 0) {
                return isBelow(value, KINDS);
            }
            // A column without a free cell is a fault at x already: no y could come behind it.
            return toldCount == 1
                ? isBelow(value, COLUMNS) && draft.bodies.inColumn(value) < ROWS
                : isBelow(value, ROWS) && !draft.bodies.standsAt(told[1], value);
        }

        boolean allowsForCliff(int value) {
            return toldCount == 0 ? isBelow(value, ROWS) && !draft.ground.hasCliff(value) : isMinute(value);
        }

        /** For two columns, then two numbers below a limit, the second of two no less than the first. */
        boolean allowsInRange(int value, int limit) {
            int least = toldCount == 1 ? told[0] : toldCount == 3 ? told[2] : 0;
            return value >= least && isBelow(value, toldCount < 2 ? COLUMNS : limit);
        }

        void endPart() {
            switch (part) {
                case 'B': draft.bodies.insert(draft.bodies.size, told[0], told[1], told[2]); break;
                case 'H': draft.ground.addHill(told); break;
                case 'L': draft.ground.addCliff(told[0], told[1]); break;
                default: draft.ground.addCloud(told); break;
            }
            part = NO_PART;
            toldCount = 0;
        }

        static int valueOf(int sign) {
            if (sign >= '0' && sign <= '9') {
                return sign - '0';
            }
            return sign >= 'a' && sign <= 'f' ? sign - 'a' + 10 : NONE;
        }
    }

    /** BODIES in the order of their numbers. */
    private static final class Bodies {
        static final int MOST = 8;
        final int[] kind = new int[MOST];
        final int[] x = new int[MOST];
        final int[] y = new int[MOST];
        int size;

        boolean has(int body) {
            return isBelow(body, size);
        }

        int height(int body) {
            return HEIGHT_OF_KIND[kind[body]];
        }

        int heads(int body) {
            return HEADS_OF_KIND[kind[body]];
        }

        int allHeads() {
            int sum = 0;
            for (int i = 0; i < size; i++) {
                sum += heads(i);
            }
            return sum;
        }

        boolean standsAt(int column, int row) {
            for (int i = 0; i < size; i++) {
                if (x[i] == column && y[i] == row) {
                    return true;
                }
            }
            return false;
        }

        int inColumn(int column) {
            int sum = 0;
            for (int i = 0; i < size; i++) {
                sum += x[i] == column ? 1 : 0;
            }
            return sum;
        }

        void insert(int body, int newKind, int newX, int newY) {
            if (size >= MOST || !isBelow(body, size + 1)) {
                return;
            }
            for (int i = size; i > body; i--) {
                renumber(i - 1, i);
            }
            kind[body] = newKind;
            x[body] = newX;
            y[body] = newY;
            size++;
        }

        void remove(int body) {
            if (!has(body)) {
                return;
            }
            for (int i = body; i < size - 1; i++) {
                renumber(i + 1, i);
            }
            size--;
        }

        void renumber(int from, int to) {
            kind[to] = kind[from];
            x[to] = x[from];
            y[to] = y[from];
        }

        void copyFrom(Bodies other) {
            size = other.size;
            for (int i = 0; i < size; i++) {
                kind[i] = other.kind[i];
                x[i] = other.x[i];
                y[i] = other.y[i];
            }
        }
    }

    /** What only a PLACE changes: HILLS, CLIFFS, CLOUDS. */
    private static final class Ground {
        static final int MOST_HILLS = 3, MOST_CLOUDS = 4, ALL_ROWS = 63;
        final int[][] hills = new int[MOST_HILLS][4];
        final int[][] clouds = new int[MOST_CLOUDS][4];
        final int[] sunFrom = new int[ROWS];
        int hillCount;
        int cloudCount;
        int cliffRows;

        void clear() {
            hillCount = 0;
            cloudCount = 0;
            cliffRows = 0;
        }

        boolean hasHill(int hill) {
            return isBelow(hill, hillCount);
        }

        boolean hasCliff(int y) {
            return (cliffRows >> y & 1) != 0;
        }

        void addHill(int[] told) {
            if (hillCount < MOST_HILLS) {
                copyFour(told, hills[hillCount]);
                hillCount++;
            }
        }

        void addCloud(int[] told) {
            if (cloudCount < MOST_CLOUDS) {
                copyFour(told, clouds[cloudCount]);
                cloudCount++;
            }
        }

        void addCliff(int y, int minute) {
            if (isBelow(y, ROWS)) {
                cliffRows |= 1 << y;
                sunFrom[y] = minute;
            }
        }

        /** The columns of a row, as bits, in which the sun can make a shadow. */
        int sunnyCells(int minute, int y) {
            if (hasCliff(y) && minute < sunFrom[y]) {
                return 0;
            }
            int cells = ALL_CELLS;
            for (int i = 0; i < cloudCount; i++) {
                int[] cloud = clouds[i];
                if (minute >= cloud[2] && minute <= cloud[3]) {
                    cells &= ~columnBits(cloud[0], cloud[1]);
                }
            }
            return cells;
        }

        /** The columns of a row, as bits, that a hill sees. */
        int view(int hill, int y) {
            int[] range = hills[hill];
            return y >= range[2] && y <= range[3] ? columnBits(range[0], range[1]) : 0;
        }

        void copyFrom(Ground other) {
            hillCount = other.hillCount;
            for (int i = 0; i < hillCount; i++) {
                copyFour(other.hills[i], hills[i]);
            }
            cloudCount = other.cloudCount;
            for (int i = 0; i < cloudCount; i++) {
                copyFour(other.clouds[i], clouds[i]);
            }
            cliffRows = other.cliffRows;
            System.arraycopy(other.sunFrom, 0, sunFrom, 0, ROWS);
        }

        static void copyFour(int[] from, int[] to) {
            System.arraycopy(from, 0, to, 0, 4);
        }
    }

    /** BODIES on their ground: what the two make dark. */
    private static final class Field {
        final Bodies bodies = new Bodies();
        final Ground ground = new Ground();

        void clear() {
            bodies.size = 0;
            ground.clear();
        }

        void copyFrom(Field other) {
            bodies.copyFrom(other.bodies);
            ground.copyFrom(other.ground);
        }

        int darkCells(int minute, int y) {
            int reached = 0;
            for (int i = 0; i < bodies.size; i++) {
                if (bodies.y[i] == y) {
                    reached |= reach(bodies.height(i), bodies.x[i], minute);
                }
            }
            return reached & ground.sunnyCells(minute, y);
        }

        int darkCellsOf(int body, int minute) {
            return reach(bodies.height(body), bodies.x[body], minute) & ground.sunnyCells(minute, bodies.y[body]);
        }

        int lonely(int minute) {
            int sum = 0;
            for (int i = 0; i < bodies.size; i++) {
                sum += isLonely(i, minute) ? 1 : 0;
            }
            return sum;
        }

        boolean isLonely(int body, int minute) {
            int own = darkCellsOf(body, minute);
            if (own == 0) {
                return false;
            }
            for (int i = 0; i < bodies.size; i++) {
                if (i != body && bodies.y[i] == bodies.y[body] && (own & darkCellsOf(i, minute)) != 0) {
                    return false;
                }
            }
            return true;
        }

        int hiddenCell(int minute) {
            for (int y = 0; y < ROWS; y++) {
                int lightCells = ground.sunnyCells(minute, y) & ~darkCells(minute, y);
                int watchedLight = lightCells & watchedCells(y);
                for (int x = 0; x < COLUMNS; x++) {
                    int newlyDark = reach(HEIGHT_OF_KIND[MAN], x, minute) & watchedLight;
                    if (newlyDark == 0 && !bodies.standsAt(x, y)) {
                        return 10 * y + x;
                    }
                }
            }
            return NONE;
        }

        /** The columns of a row, as bits, that some hill sees. */
        int watchedCells(int y) {
            int cells = 0;
            for (int i = 0; i < ground.hillCount; i++) {
                cells |= ground.view(i, y);
            }
            return cells;
        }
    }

    /** The last ACTS, the oldest forgotten first; each holds how its BODY stood, so that it can be taken back. */
    private static final class Acts {
        static final int PUT = 0, MOVE = 1, TAKE = 2, MOST = 16;
        final int[] sort = new int[MOST];
        final int[] body = new int[MOST];
        final int[] kind = new int[MOST];
        final int[] x = new int[MOST];
        final int[] y = new int[MOST];
        int oldest;
        int size;

        void forget() {
            oldest = 0;
            size = 0;
        }

        void remember(int newSort, int number, Bodies bodies) {
            if (!bodies.has(number)) {
                return;
            }
            if (size == MOST) {
                oldest = (oldest + 1) % MOST;
                size--;
            }
            int at = (oldest + size) % MOST;
            sort[at] = newSort;
            body[at] = number;
            kind[at] = bodies.kind[number];
            x[at] = bodies.x[number];
            y[at] = bodies.y[number];
            size++;
        }

        void undo(Bodies bodies) {
            if (size == 0) {
                return;
            }
            size--;
            int at = (oldest + size) % MOST;
            if (sort[at] != TAKE) {
                bodies.remove(body[at]);
            }
            if (sort[at] != PUT) {
                bodies.insert(body[at], kind[at], x[at], y[at]);
            }
        }
    }

    /** The RUNS that a HILL sees at a MINUTE; one object serves all looks, each look overwrites the last. */
    private static final class Runs {
        /** A row of ten has five runs at most. */
        static final int MOST = 5 * ROWS;
        final int[] row = new int[MOST];
        final int[] first = new int[MOST];
        final int[] length = new int[MOST];
        int size;

        void look(Field field, int hill, int minute) {
            size = 0;
            for (int y = 0; y < ROWS; y++) {
                addRunsOf(y, field.ground.view(hill, y) & field.darkCells(minute, y));
            }
        }

        void addRunsOf(int y, int cells) {
            int open = 0;
            // One column more than there are: it is never dark, so it ends a run that comes to the field's edge.
            for (int x = 0; x <= COLUMNS; x++) {
                if ((cells >> x & 1) != 0) {
                    open++;
                } else if (open > 0) {
                    add(y, x - open, open);
                    open = 0;
                }
            }
        }

        void add(int newRow, int newFirst, int newLength) {
            if (size < MOST) {
                row[size] = newRow;
                first[size] = newFirst;
                length[size] = newLength;
                size++;
            }
        }

        int headsByRule(int manShadow) {
            int sum = 0;
            for (int i = 0; i < size; i++) {
                sum += headsOfRun(length[i], manShadow);
            }
            return sum;
        }

        static int headsOfRun(int length, int manShadow) {
            if (manShadow <= 0 || length <= manShadow) {
                return 1;
            }
            int left = length % manShadow;
            return length / manShadow + (2 * left > manShadow ? 1 : 0);
        }
    }

    /** What was seen of a row: at a MINUTE just these CELLS were dark. */
    private static final class Sights {
        static final int MOST = 6;
        final int[] minute = new int[MOST];
        final int[] cells = new int[MOST];
        int size;

        void add(int newMinute, int newCells) {
            if (size < MOST) {
                minute[size] = newMinute;
                cells[size] = newCells;
                size++;
            }
        }

        void copyFrom(Sights other) {
            size = other.size;
            for (int i = 0; i < size; i++) {
                minute[i] = other.minute[i];
                cells[i] = other.cells[i];
            }
        }
    }

    /** What a SLOT keeps. */
    private static final class Slot {
        final Bodies bodies = new Bodies();
        final Sights sights = new Sights();
        boolean filled;
    }

    /**
     * The rows that fit SIGHTS. Six sights of ten cells go into one long, so that one OR lays a shadow over all
     * of them. Who may stand in a column does not depend on the others: his shadows must lie in what was dark.
     * A child's lie in those of a man in its place. So there is a fit, just if the tallest that may stand,
     * one in each column, make dark all that was; the 59049 rows need not be gone through.
     */
    private static final class Fits {
        static final int NOBODY = 1, CHILD_TOO = 2, MAN_TOO = 3;
        final long[] child = new long[COLUMNS];
        final long[] man = new long[COLUMNS];
        /** In how many ways each column can be filled. */
        final int[] choices = new int[COLUMNS];
        /** From each column to the east end: all that can be made dark, in how many ways all can be filled. */
        final long[] darkFrom = new long[COLUMNS + 1];
        final int[] waysFrom = new int[COLUMNS + 1];
        final int[] childReach = new int[COLUMNS];
        final int[] manReach = new int[COLUMNS];
        long wanted;

        void prepare(Sights sights) {
            wanted = 0L;
            for (int i = 0; i < sights.size; i++) {
                wanted = wanted << COLUMNS | sights.cells[i];
            }
            darkFrom[COLUMNS] = 0L;
            waysFrom[COLUMNS] = 1;
            for (int x = COLUMNS - 1; x >= 0; x--) {
                child[x] = shadowsOf(CHILD, x, sights);
                man[x] = shadowsOf(MAN, x, sights);
                choices[x] = mayStand(man[x]) ? MAN_TOO : mayStand(child[x]) ? CHILD_TOO : NOBODY;
                darkFrom[x] = darkFrom[x + 1] | tallest(x);
                waysFrom[x] = waysFrom[x + 1] * choices[x];
            }
        }

        static long shadowsOf(int kind, int x, Sights sights) {
            long shadows = 0L;
            for (int i = 0; i < sights.size; i++) {
                shadows = shadows << COLUMNS | reach(HEIGHT_OF_KIND[kind], x, sights.minute[i]);
            }
            return shadows;
        }

        boolean mayStand(long shadows) {
            return (shadows & ~wanted) == 0L;
        }

        long tallest(int x) {
            return choices[x] == MAN_TOO ? man[x] : choices[x] == CHILD_TOO ? child[x] : 0L;
        }

        boolean exist() {
            return darkFrom[0] == wanted;
        }

        int number() {
            return waysToFill(this, 0, 0L);
        }

        /** In how many ways columns from x on can be filled, if those ahead of it have made so much dark. */
        private static int waysToFill(Fits rows, int x, long dark) {
            if (!isBelow(x, COLUMNS + 1) || (dark | rows.darkFrom[x]) != rows.wanted) {
                return 0;
            }
            if (dark == rows.wanted) {
                return rows.waysFrom[x];
            }
            int sum = waysToFill(rows, x + 1, dark);
            if (x < COLUMNS && rows.choices[x] >= CHILD_TOO) {
                sum += waysToFill(rows, x + 1, dark | rows.child[x]);
            }
            if (x < COLUMNS && rows.choices[x] == MAN_TOO) {
                sum += waysToFill(rows, x + 1, dark | rows.man[x]);
            }
            return sum;
        }

        int mostHeads() {
            int sum = 0;
            for (int x = 0; x < COLUMNS; x++) {
                sum += choices[x] == NOBODY ? 0 : 1;
            }
            return sum;
        }

        int fewestHeads() {
            return fewestFrom(this, 0, 0L);
        }

        /** How few from column x on make dark what is still wanted; more than there are columns, if none can. */
        private static int fewestFrom(Fits rows, int x, long dark) {
            if (dark == rows.wanted) {
                return 0;
            }
            if (!isBelow(x, COLUMNS) || (dark | rows.darkFrom[x]) != rows.wanted) {
                return COLUMNS + 1;
            }
            int without = fewestFrom(rows, x + 1, dark);
            return Math.min(without, 1 + fewestFrom(rows, x + 1, dark | rows.tallest(x)));
        }

        int surelyTaken() {
            int cells = 0;
            for (int x = 0; x < COLUMNS; x++) {
                cells |= darkWithout(x) == wanted ? 0 : 1 << x;
            }
            return cells;
        }

        long darkWithout(int column) {
            long dark = 0L;
            for (int x = 0; x < COLUMNS; x++) {
                dark |= x == column ? 0L : tallest(x);
            }
            return dark;
        }

        int tellingMinute() {
            int telling = 0;
            int mostUnlike = 0;
            for (int minute = 0; minute < MINUTES; minute++) {
                int unlike = unlikeRows(minute);
                if (unlike > mostUnlike) {
                    mostUnlike = unlike;
                    telling = minute;
                }
            }
            return telling;
        }

        int unlikeRows(int minute) {
            int reachable = 0;
            for (int x = 0; x < COLUMNS; x++) {
                childReach[x] = reach(HEIGHT_OF_KIND[CHILD], x, minute);
                manReach[x] = reach(HEIGHT_OF_KIND[MAN], x, minute);
                reachable |= choices[x] == MAN_TOO ? manReach[x] : choices[x] == CHILD_TOO ? childReach[x] : 0;
            }
            int sum = 0;
            for (int cells = 0; cells <= ALL_CELLS; cells++) {
                if ((cells & ~reachable) == 0 && mayShow(cells)) {
                    sum++;
                }
            }
            return sum;
        }

        /** Whether some fit makes just these cells dark: again the tallest that may stand decide it. */
        boolean mayShow(int cells) {
            long dark = 0L;
            int shown = 0;
            for (int x = 0; x < COLUMNS; x++) {
                if (choices[x] == MAN_TOO && (manReach[x] & ~cells) == 0) {
                    dark |= man[x];
                    shown |= manReach[x];
                } else if (choices[x] >= CHILD_TOO && (childReach[x] & ~cells) == 0) {
                    dark |= child[x];
                    shown |= childReach[x];
                }
            }
            return shown == cells && dark == wanted;
        }
    }
}

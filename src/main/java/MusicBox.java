import java.util.Arrays;

/** A music box: a drum with pins, a comb with teeth, a spring that runs down. */
public final class MusicBox {
    public static final int NONE = -1000000, BAD = -1000001, STATE = -1000002, FULL = -1000003;

    private static final int FINDINGS = -1000010, NULL = 1, PLACE = 2, KIND = 3, SIZE = 4, STORE = 5;
    private static final int FAULTS = -1000100, MISPLACED = 1, OUT_OF_RANGE = 2, TOO_MANY = 3;
    private static final int STEEL = 1, DAMPED = 2, TWIN = 3, REED = 4, CRACKED = 5, KINDS = 5;
    private static final int ROWS = 8, MOST_LANE = 2, MOST_ITEMS = 40, MOST_TOLD = 12;
    private static final int LEAST_COLUMNS = 4, MOST_COLUMNS = 12, MOST_TEETH = 6, MOST_PINS = 63, MOST_TUNED = 9;
    private static final int MOST_SPRING = 99, MOST_PLUCKED = 99, MOST_TICK = 999, MOST_AHEAD = 60;
    private static final int MOST_BYTES = 100, MOST_ACTS = 24, IMAGES = 2, MOST_TRACE = 16;

    /** The kind that each kind is, too; all are teeth (0). */
    private static final int[] WIDER_KINDS = {0, 0, STEEL, STEEL, 0, REED};

    private final Row[] rows = new Row[ROWS];
    private final Works[] images = new Works[IMAGES];
    private final Works now = new Works();
    private final Works draft = new Works();
    private final Tape tape = new Tape();
    private final Past past = new Past();
    private final Seer seer = new Seer(now);
    private final Asking asking = new Asking(now);
    private int latestFinding;
    private int latestFault;

    public MusicBox() {
        for (int r = 0; r < ROWS; r++) {
            rows[r] = new Row();
        }
        for (int k = 0; k < IMAGES; k++) {
            images[k] = new Works();
        }
    }

    // ---- rows

    public int row(int row, int lane, int n) {
        if (!isRow(row) || !within(lane, 0, MOST_LANE) || n > MOST_ITEMS) {
            return BAD;
        }
        if (n < 0) {
            return found(SIZE);
        }
        rows[row].startOver(lane, n);
        return unfound(n);
    }

    public int set(int row, int i, int v) {
        if (!isRow(row)) {
            return BAD;
        }
        int finding = findingOf(rows[row], i, 1);
        if (finding != 0) {
            return found(finding);
        }
        return unfound(rows[row].put(i, v));
    }

    public int copy(int a, int i, int b, int j, int n) {
        if (!isRow(a) || !isRow(b)) {
            return BAD;
        }
        Row from = rows[a];
        Row to = rows[b];
        if (!from.there || !to.there) {
            return found(NULL);
        }
        if (from.lane != to.lane) {
            return found(STORE);
        }
        if (!from.holds(i, n) || !to.holds(j, n)) {
            return found(PLACE);
        }
        System.arraycopy(from.items, i, to.items, j, n);
        return unfound(n);
    }

    public int drop(int row) {
        if (!isRow(row)) {
            return BAD;
        }
        if (!rows[row].there) {
            return found(NULL);
        }
        rows[row].there = false;
        return unfound(rows[row].size);
    }

    // ---- what is told

    public int feed(int letter) {
        if (!within(letter, 0, 255)) {
            return BAD;
        }
        if (tape.length >= MOST_BYTES) {
            return FULL;
        }
        return tape.add(letter);
    }

    public int box() {
        boolean whole = tape.readInto(draft);
        tape.length = 0;
        if (!whole) {
            latestFault = tape.fault;
            return FAULTS - tape.at;
        }
        now.takeFrom(draft);
        past.forget();
        return now.teeth;
    }

    public int fault() {
        return latestFault;
    }

    public int undo() {
        if (past.size == 0) {
            return STATE;
        }
        past.bringBack(now);
        return past.size;
    }

    // ---- what is done

    public int ticks(int n) {
        if (!hasBox()) {
            return STATE;
        }
        if (!within(n, 1, 24)) {
            return BAD;
        }
        if (now.tick + n > MOST_TICK) {
            return FULL;
        }
        for (int i = 0; i < n; i++) {
            past.keep(now);
            now.turn();
        }
        return now.loud();
    }

    public int wind(int n) {
        if (!hasBox()) {
            return STATE;
        }
        if (!within(n, 1, 99)) {
            return BAD;
        }
        past.keep(now);
        now.windBy(n);
        return now.spring;
    }

    public int pin(int column, int tooth) {
        if (!hasColumn(column) || !hasTooth(tooth)) {
            return BAD;
        }
        past.keep(now);
        now.togglePin(column, tooth);
        return now.pinned[column];
    }

    public int drum(int column) {
        if (!hasColumn(column)) {
            return BAD;
        }
        int before = now.column;
        if (column == before) {
            return STATE;
        }
        past.keep(now);
        now.column = column;
        return before;
    }

    public int mend(int tooth) {
        if (!hasTooth(tooth)) {
            return BAD;
        }
        if (!now.isBroken(tooth)) {
            return STATE;
        }
        int before = now.plucked[tooth];
        past.keep(now);
        now.makeWhole(tooth);
        return before;
    }

    public int tooth(int tooth, int what) {
        if (!hasTooth(tooth)) {
            return BAD;
        }
        switch (what) {
            case 0: return now.tuned[tooth];
            case 1: return now.rings[tooth];
            case 2: return now.plucked[tooth];
            case 3: return now.isBroken(tooth) ? 1 : 0;
            case 4: return now.columnsOf(tooth);
            default: return BAD;
        }
    }

    public int pins(int column) {
        return hasColumn(column) ? now.pinned[column] : BAD;
    }

    public int stand(int what) {
        if (!hasBox()) {
            return STATE;
        }
        switch (what) {
            case 0: return now.columns;
            case 1: return now.column;
            case 2: return now.spring;
            case 3: return now.loud();
            case 4: return now.ringing();
            case 5: return now.broken;
            default: return BAD;
        }
    }

    // ---- foretold

    public int ahead(int tooth, int n, int what) {
        if (!hasTooth(tooth) || !within(n, 0, MOST_AHEAD) || !within(what, 0, 2)) {
            return BAD;
        }
        return seer.toothAhead(tooth, n, what);
    }

    public int heard(int n, int what) {
        if (!hasBox()) {
            return STATE;
        }
        if (!within(n, 0, MOST_AHEAD) || !within(what, 0, 3)) {
            return BAD;
        }
        return seer.boxAhead(n, what);
    }

    public int when(int tooth, int how) {
        if (!hasTooth(tooth) || !within(how, 0, 1)) {
            return BAD;
        }
        return seer.firstTick(tooth, how);
    }

    public int stops() {
        return hasBox() ? seer.firstStop() : STATE;
    }

    public int bestPin(int n, int what) {
        if (!hasBox()) {
            return STATE;
        }
        if (!within(n, 1, 20) || !within(what, 0, 1)) {
            return BAD;
        }
        return seer.loudestPin(n, what);
    }

    public int begin(int n, int what) {
        if (!hasBox()) {
            return STATE;
        }
        if (!within(n, 1, 40) || !within(what, 0, 1)) {
            return BAD;
        }
        return seer.loudestColumn(n, what);
    }

    public int least(int n) {
        if (!hasBox()) {
            return STATE;
        }
        if (!within(n, 1, 40)) {
            return BAD;
        }
        return seer.leastSpring(n);
    }

    public int tune(int row, int i, int n) {
        if (!hasBox()) {
            return STATE;
        }
        if (!isRow(row) || !within(n, 1, MOST_TOLD)) {
            return BAD;
        }
        int finding = findingOf(rows[row], i, n);
        if (finding != 0) {
            return found(finding);
        }
        return unfound(seer.columnsOfTune(rows[row], i, n));
    }

    public int sets(int v, int what) {
        if (!hasBox()) {
            return STATE;
        }
        if (!within(v, 0, 99) || !within(what, 0, 2)) {
            return BAD;
        }
        return seer.setsThatRing(v, what);
    }

    public int share(int tooth, int n) {
        if (!hasTooth(tooth) || !within(n, 0, 999)) {
            return BAD;
        }
        return seer.oilFor(tooth, n);
    }

    public int byTurns(int n, int m) {
        if (!hasBox()) {
            return STATE;
        }
        if (!within(n, 0, 4) || !within(m, 1, 20)) {
            return BAD;
        }
        return seer.outcomeOfTurns(n, m);
    }

    public int who(int tooth, int which, int row, int i, int n) {
        if (!hasTooth(tooth) || !within(which, 0, 4) || !isRow(row) || !within(n, 1, MOST_TOLD)) {
            return BAD;
        }
        int finding = findingOf(rows[row], i, n);
        if (finding != 0) {
            return found(finding);
        }
        return unfound(seer.whatFits(tooth, which, rows[row], i, n));
    }

    public long lost(int tooth, int n, int p, int what) {
        if (!hasTooth(tooth) || !within(n, 0, 20) || !within(p, 0, 10) || !within(what, 0, 1)) {
            return BAD;
        }
        return seer.chanceOfRinging(tooth, n, p, what);
    }

    public int drawn(int n, int seed, int what) {
        if (!hasBox()) {
            return STATE;
        }
        if (!within(n, 0, MOST_AHEAD) || !within(seed, 1, 999999) || !within(what, 0, 1)) {
            return BAD;
        }
        return seer.days(n, seed, what);
    }

    public int image(int k) {
        if (!within(k, 0, IMAGES - 1)) {
            return BAD;
        }
        if (!hasBox()) {
            return STATE;
        }
        images[k].takeFrom(now);
        return 1;
    }

    public int restore(int k) {
        if (!within(k, 0, IMAGES - 1)) {
            return BAD;
        }
        if (images[k].teeth == 0) {
            return STATE;
        }
        now.takeFrom(images[k]);
        past.forget();
        return 1;
    }

    // ---- asked

    public int kind(int one) {
        return hasTooth(one) ? now.kinds[one] : BAD;
    }

    public int as(int one, int kind) {
        if (!hasTooth(one) || !within(kind, 0, KINDS)) {
            return BAD;
        }
        return isOfKind(now.kinds[one], kind) ? unfound(one) : found(KIND);
    }

    public int ask(int one, int what) {
        if (!hasTooth(one) || !within(what, 0, 1)) {
            return BAD;
        }
        return asking.start(what, one);
    }

    public int trace(int i) {
        return within(i, 0, asking.length - 1) ? asking.left[i] : NONE;
    }

    public int count(int what) {
        switch (what) {
            case 0: return rowsThere();
            case 1: return now.teeth;
            case 2: return now.columns;
            case 3: return now.tick;
            case 4: return now.spring;
            case 5: return now.pluckedInAll();
            case 6: return past.size;
            case 7: return tape.length;
            default: return BAD;
        }
    }

    public int status() {
        return latestFinding;
    }

    // ---- what the calls share

    private static boolean within(int number, int least, int most) {
        return number >= least && number <= most;
    }

    private static boolean isRow(int row) {
        return within(row, 0, ROWS - 1);
    }

    /** The tree of kinds is two levels deep below the tooth, so one look upwards is enough. */
    private static boolean isOfKind(int told, int asked) {
        return asked == 0 || asked == told || asked == WIDER_KINDS[told];
    }

    /** A box that was read has a tooth at least. */
    private boolean hasBox() {
        return now.teeth > 0;
    }

    private boolean hasTooth(int tooth) {
        return within(tooth, 0, now.teeth - 1);
    }

    private boolean hasColumn(int column) {
        return within(column, 0, now.columns - 1);
    }

    private int rowsThere() {
        int there = 0;
        for (int r = 0; r < ROWS; r++) {
            if (rows[r].there) {
                there++;
            }
        }
        return there;
    }

    private static int findingOf(Row row, int i, int n) {
        if (!row.there) {
            return NULL;
        }
        return row.holds(i, n) ? 0 : PLACE;
    }

    private int found(int finding) {
        latestFinding = finding;
        return FINDINGS - finding;
    }

    private int unfound(int answer) {
        latestFinding = 0;
        return answer;
    }

    /** A row of items in a lane; its room is kept when it is missing. */
    private static final class Row {
        final int[] items = new int[MOST_ITEMS];
        boolean there;
        int lane;
        int size;

        Row() {
        }

        void startOver(int newLane, int newSize) {
            there = true;
            lane = newLane;
            size = newSize;
            Arrays.fill(items, 0);
        }

        /** Whether n items from i on are all there; n is held against what is left, so that no sum overflows. */
        boolean holds(int i, int n) {
            return i >= 0 && n >= 0 && i <= size && n <= size - i;
        }

        int put(int i, int v) {
            items[i] = cut(v);
            return items[i];
        }

        private int cut(int v) {
            switch (lane) {
                case 0: return (byte) v;
                case 1: return (short) v;
                default: return v;
            }
        }
    }

    /** The bytes that were fed, and how they are read. */
    private static final class Tape {
        final int[] bytes = new int[MOST_BYTES];
        int length;
        /** Where the reading is; behind a fault the first byte of the token that has it. */
        int at;
        int fault;
        private int number;

        Tape() {
        }

        int add(int letter) {
            bytes[length] = letter;
            length++;
            return length;
        }

        boolean readInto(Works box) {
            at = 0;
            fault = 0;
            box.clear();
            return readLaw(box) && readColumns(box) && readTeeth(box);
        }

        private boolean readLaw(Works box) {
            if (!take('m') || !takeNumber(0, MOST_SPRING)) {
                return false;
            }
            box.spring = number;
            if (!take(',') || !takeNumber(0, LEAST_COLUMNS - 1)) {
                return false;
            }
            box.column = number;
            return take(';');
        }

        private boolean readColumns(Works box) {
            for (int c = 0; c <= MOST_COLUMNS && coming() == 'p'; c++) {
                if (c == MOST_COLUMNS) {
                    return fail(TOO_MANY);
                }
                at++;
                if (!takeNumber(0, MOST_PINS) || !take(';')) {
                    return false;
                }
                box.pinned[c] = number;
                box.columns = c + 1;
            }
            return box.columns >= LEAST_COLUMNS || fail(MISPLACED);
        }

        private boolean readTeeth(Works box) {
            for (int t = 0; t <= MOST_TEETH && at < length; t++) {
                int kind = kindOf(coming());
                if (kind == 0) {
                    return fail(MISPLACED);
                }
                if (t == MOST_TEETH) {
                    return fail(TOO_MANY);
                }
                at++;
                if (!takeNumber(1, MOST_TUNED) || !take(';')) {
                    return false;
                }
                box.kinds[t] = kind;
                box.tuned[t] = number;
                box.teeth = t + 1;
            }
            return box.teeth > 0 || fail(MISPLACED);
        }

        private static int kindOf(int letter) {
            switch (letter) {
                case 's': return STEEL;
                case 'd': return DAMPED;
                case 't': return TWIN;
                case 'r': return REED;
                case 'c': return CRACKED;
                default: return 0;
            }
        }

        /** The byte that comes, or -1 at the end. */
        private int coming() {
            return at < length ? bytes[at] : -1;
        }

        private boolean take(int sign) {
            if (coming() != sign) {
                return fail(MISPLACED);
            }
            at++;
            return true;
        }

        private boolean takeNumber(int least, int most) {
            int figures = 0;
            int value = 0;
            for (int i = at; i < length && bytes[i] >= '0' && bytes[i] <= '9'; i++) {
                value = 10 * value + bytes[i] - '0';
                figures++;
            }
            if (figures < 1 || figures > 2) {
                return fail(MISPLACED);
            }
            if (value < least || value > most) {
                return fail(OUT_OF_RANGE);
            }
            at += figures;
            number = value;
            return true;
        }

        private boolean fail(int itsNumber) {
            fault = itsNumber;
            return false;
        }
    }

    /** A box as it stands: what the text told of it and what the ticks changed. */
    private static final class Works {
        int columns;
        int teeth;
        int spring;
        int column;
        int tick;
        /** Teeth (bits). */
        int broken;
        final int[] pinned = new int[MOST_COLUMNS];
        final int[] kinds = new int[MOST_TEETH];
        final int[] tuned = new int[MOST_TEETH];
        final int[] rings = new int[MOST_TEETH];
        final int[] plucked = new int[MOST_TEETH];

        Works() {
        }

        void takeFrom(Works other) {
            columns = other.columns;
            teeth = other.teeth;
            spring = other.spring;
            column = other.column;
            tick = other.tick;
            broken = other.broken;
            System.arraycopy(other.pinned, 0, pinned, 0, MOST_COLUMNS);
            System.arraycopy(other.kinds, 0, kinds, 0, MOST_TEETH);
            System.arraycopy(other.tuned, 0, tuned, 0, MOST_TEETH);
            System.arraycopy(other.rings, 0, rings, 0, MOST_TEETH);
            System.arraycopy(other.plucked, 0, plucked, 0, MOST_TEETH);
        }

        void clear() {
            columns = 0;
            teeth = 0;
            spring = 0;
            column = 0;
            tick = 0;
            broken = 0;
            Arrays.fill(rings, 0);
            Arrays.fill(plucked, 0);
        }

        /** One tick; answers how many teeth it plucked: each costs one of the spring. */
        int turn() {
            for (int t = 0; t < teeth; t++) {
                if (rings[t] > 0) {
                    rings[t] = faded(kinds[t], rings[t]);
                }
            }
            tick++;
            if (spring <= 0) {
                return 0;
            }
            column = columnBehind();
            spring--;
            int before = spring;
            int toPluck = pinned[column] & ~broken;
            for (int t = 0; t < teeth && spring > 0; t++) {
                if ((toPluck >> t & 1) == 1) {
                    pluck(t);
                }
            }
            return before - spring;
        }

        private static int faded(int kind, int ring) {
            switch (kind) {
                case DAMPED: return 0;
                case REED: return Math.max(0, ring - 1);
                case CRACKED: return ring / 2;
                default: return Math.max(0, ring - 2);
            }
        }

        private void pluck(int tooth) {
            spring--;
            plucked[tooth] = Math.min(MOST_PLUCKED, plucked[tooth] + 1);
            switch (kinds[tooth]) {
                case DAMPED:
                    rings[tooth] = tuned[tooth];
                    break;
                case REED:
                    rings[tooth] = tuned[tooth] + spring / 10;
                    break;
                case CRACKED:
                    rings[tooth] = tuned[tooth] + spring / 10;
                    if (plucked[tooth] >= 3) {
                        broken |= 1 << tooth;
                    }
                    break;
                case TWIN:
                    rings[tooth] = 2 * tuned[tooth];
                    stir(tooth + 1, tuned[tooth]);
                    break;
                default:
                    rings[tooth] = 2 * tuned[tooth];
                    break;
            }
        }

        private void stir(int tooth, int ring) {
            if (tooth < teeth && (broken >> tooth & 1) == 0 && rings[tooth] < ring) {
                rings[tooth] = ring;
            }
        }

        int columnBehind() {
            return column + 1 < columns ? column + 1 : 0;
        }

        void windBy(int n) {
            spring = Math.min(MOST_SPRING, spring + n);
        }

        void togglePin(int atColumn, int tooth) {
            pinned[atColumn] ^= 1 << tooth;
        }

        boolean isBroken(int tooth) {
            return (broken >> tooth & 1) == 1;
        }

        void makeWhole(int tooth) {
            broken &= ~(1 << tooth);
            plucked[tooth] = 0;
            rings[tooth] = 0;
        }

        int loud() {
            int sum = 0;
            for (int t = 0; t < teeth; t++) {
                sum += rings[t];
            }
            return sum;
        }

        int ringing() {
            int set = 0;
            for (int t = 0; t < teeth; t++) {
                if (rings[t] > 0) {
                    set |= 1 << t;
                }
            }
            return set;
        }

        int pluckedInAll() {
            int sum = 0;
            for (int t = 0; t < teeth; t++) {
                sum += plucked[t];
            }
            return sum;
        }

        int columnsOf(int tooth) {
            int set = 0;
            for (int c = 0; c < columns; c++) {
                set |= (pinned[c] >> tooth & 1) << c;
            }
            return set;
        }

        void turnTimes(int n) {
            for (int i = 0; i < n; i++) {
                turn();
            }
        }

        /** Loud behind each of n ticks, together. */
        int loudOver(int n) {
            int sum = 0;
            for (int i = 0; i < n; i++) {
                turn();
                sum += loud();
            }
            return sum;
        }

        /** Whether the next tick turns the drum to one of these columns (bits). */
        boolean comesTo(int set) {
            return spring > 0 && (set >> columnBehind() & 1) == 1;
        }
    }

    /** The box as it was ahead of each act that can be undone; the oldest gives way. */
    private static final class Past {
        private final Works[] kept = new Works[MOST_ACTS];
        private int next;
        int size;

        Past() {
            for (int i = 0; i < MOST_ACTS; i++) {
                kept[i] = new Works();
            }
        }

        void keep(Works box) {
            kept[next].takeFrom(box);
            next = next + 1 < MOST_ACTS ? next + 1 : 0;
            size = Math.min(MOST_ACTS, size + 1);
        }

        void bringBack(Works box) {
            next = next > 0 ? next - 1 : MOST_ACTS - 1;
            box.takeFrom(kept[next]);
            size--;
        }

        void forget() {
            size = 0;
        }
    }

    /** What would come, tried out on boxes beside the one that stands. */
    private static final class Seer {
        private static final long FACTOR = 16807, MODULUS = 2147483647;

        private final Works now;
        private final Works trial = new Works();
        /** Boxes by how many pins are decided upon, kept or lost. */
        private final Works[] cases = new Works[MOST_COLUMNS + 1];

        Seer(Works box) {
            now = box;
            for (int i = 0; i <= MOST_COLUMNS; i++) {
                cases[i] = new Works();
            }
        }

        private void tryAhead(int n) {
            trial.takeFrom(now);
            trial.turnTimes(n);
        }

        int toothAhead(int tooth, int n, int what) {
            tryAhead(n);
            switch (what) {
                case 0: return trial.rings[tooth];
                case 1: return trial.plucked[tooth];
                default: return trial.isBroken(tooth) ? 1 : 0;
            }
        }

        int boxAhead(int n, int what) {
            tryAhead(n);
            switch (what) {
                case 0: return trial.loud();
                case 1: return trial.ringing();
                case 2: return trial.column;
                default: return trial.spring;
            }
        }

        int firstTick(int tooth, int how) {
            trial.takeFrom(now);
            for (int n = 0; n <= MOST_AHEAD; n++) {
                boolean is = how == 0 ? trial.rings[tooth] > 0 : trial.isBroken(tooth);
                if (is) {
                    return n;
                }
                trial.turn();
            }
            return NONE;
        }

        int firstStop() {
            trial.takeFrom(now);
            for (int n = 0; n <= MOST_AHEAD; n++) {
                if (trial.spring == 0) {
                    return n;
                }
                trial.turn();
            }
            return NONE;
        }

        int loudestPin(int n, int what) {
            int best = 0;
            int most = -1;
            for (int c = 0; c < now.columns; c++) {
                for (int t = 0; t < now.teeth; t++) {
                    trial.takeFrom(now);
                    trial.togglePin(c, t);
                    int sum = trial.loudOver(n);
                    if (sum > most) {
                        most = sum;
                        best = 10 * c + t;
                    }
                }
            }
            return what == 0 ? best : most;
        }

        int loudestColumn(int n, int what) {
            int best = 0;
            int most = -1;
            for (int c = 0; c < now.columns; c++) {
                trial.takeFrom(now);
                trial.column = c;
                int sum = trial.loudOver(n);
                if (sum > most) {
                    most = sum;
                    best = c;
                }
            }
            return what == 0 ? best : most;
        }

        /** Each spring is tried: one that is stronger may break a tooth later, or sooner. */
        int leastSpring(int n) {
            for (int s = 0; s <= MOST_SPRING; s++) {
                trial.takeFrom(now);
                trial.spring = s;
                for (int i = 0; i < n && trial.spring > 0; i++) {
                    trial.turn();
                }
                if (trial.spring > 0) {
                    return s;
                }
            }
            return NONE;
        }

        int columnsOfTune(Row row, int i, int n) {
            int set = 0;
            for (int c = 0; c < now.columns; c++) {
                if (standsFrom(c, row, i, n)) {
                    set |= 1 << c;
                }
            }
            return set;
        }

        private boolean standsFrom(int column, Row row, int i, int n) {
            int toothSet = (1 << now.teeth) - 1;
            int c = column;
            for (int k = i; k < i + n; k++) {
                if ((now.pinned[c] & toothSet) != row.items[k]) {
                    return false;
                }
                c = c + 1 < now.columns ? c + 1 : 0;
            }
            return true;
        }

        int setsThatRing(int v, int what) {
            int ringing = now.ringing();
            int many = 0;
            int inAll = ringing;
            int inAny = 0;
            for (int set = 0; set < 1 << now.teeth; set++) {
                if ((set & ~ringing) == 0 && loudOf(set) == v) {
                    many++;
                    inAll &= set;
                    inAny |= set;
                }
            }
            switch (what) {
                case 0: return many;
                case 1: return many == 0 ? 0 : inAll;
                default: return inAny;
            }
        }

        private int loudOf(int set) {
            int sum = 0;
            for (int t = 0; t < now.teeth; t++) {
                if ((set >> t & 1) == 1) {
                    sum += now.rings[t];
                }
            }
            return sum;
        }

        /** How often a tooth was plucked, as it counts for its oil. */
        private int wear(int tooth) {
            return now.isBroken(tooth) ? 0 : now.plucked[tooth];
        }

        int oilFor(int tooth, int n) {
            int all = 0;
            for (int t = 0; t < now.teeth; t++) {
                all += wear(t);
            }
            if (all == 0 || wear(tooth) == 0) {
                return 0;
            }
            int over = n;
            int ahead = 0;
            for (int t = 0; t < now.teeth; t++) {
                over -= n * wear(t) / all;
                if (t < tooth && wear(t) > 0) {
                    ahead++;
                }
            }
            return n * wear(tooth) / all + (ahead < over ? 1 : 0);
        }

        int outcomeOfTurns(int n, int m) {
            return outcome(0, n, m, 0, false);
        }

        /** The one, at even turns, wants much; wound and toggled say what was done in the turns before. */
        private int outcome(int turn, int n, int m, int wound, boolean toggled) {
            if (turn >= n) {
                return loudBehindTurns(m, wound, toggled);
            }
            int idle = outcome(turn + 1, n, m, wound, toggled);
            if (turn % 2 == 0) {
                return Math.max(idle, outcome(turn + 1, n, m, wound, !toggled));
            }
            return Math.min(idle, outcome(turn + 1, n, m, wound + 2, toggled));
        }

        private int loudBehindTurns(int m, int wound, boolean toggled) {
            trial.takeFrom(now);
            trial.windBy(wound);
            if (toggled) {
                trial.togglePin(trial.columnBehind(), 0);
            }
            trial.turnTimes(m);
            return trial.loud();
        }

        int whatFits(int tooth, int which, Row row, int i, int n) {
            switch (which) {
                case 0: return kindsThatFit(tooth, row, i, n);
                case 1: return tuningsThatFit(tooth, row, i, n);
                case 2: return columnsThatFit(row, i, n);
                default: return springsThatFit(which, row, i, n);
            }
        }

        private int kindsThatFit(int tooth, Row row, int i, int n) {
            int set = 0;
            for (int k = STEEL; k <= KINDS; k++) {
                trial.takeFrom(now);
                trial.kinds[tooth] = k;
                if (trialIsHeardAs(row, i, n)) {
                    set |= 1 << k;
                }
            }
            return set;
        }

        private int tuningsThatFit(int tooth, Row row, int i, int n) {
            int set = 0;
            for (int tuned = 1; tuned <= MOST_TUNED; tuned++) {
                trial.takeFrom(now);
                trial.tuned[tooth] = tuned;
                if (trialIsHeardAs(row, i, n)) {
                    set |= 1 << tuned;
                }
            }
            return set;
        }

        private int columnsThatFit(Row row, int i, int n) {
            int set = 0;
            for (int c = 0; c < now.columns; c++) {
                trial.takeFrom(now);
                trial.column = c;
                if (trialIsHeardAs(row, i, n)) {
                    set |= 1 << c;
                }
            }
            return set;
        }

        private int springsThatFit(int which, Row row, int i, int n) {
            int many = 0;
            int least = NONE;
            for (int s = 0; s <= MOST_SPRING; s++) {
                trial.takeFrom(now);
                trial.spring = s;
                if (trialIsHeardAs(row, i, n)) {
                    least = many == 0 ? s : least;
                    many++;
                }
            }
            return which == 3 ? many : least;
        }

        private boolean trialIsHeardAs(Row row, int i, int n) {
            for (int k = i; k < i + n; k++) {
                trial.turn();
                if (trial.loud() != row.items[k]) {
                    return false;
                }
            }
            return true;
        }

        long chanceOfRinging(int tooth, int n, int p, int what) {
            int open = now.columnsOf(tooth);
            cases[0].takeFrom(now);
            long above = weightOfRinging(0, n, open, tooth, p);
            long below = tenToThe(Integer.bitCount(open));
            long divisor = commonDivisor(above, below);
            if (divisor == 0) {
                return 0;
            }
            return what == 0 ? above / divisor : below / divisor;
        }

        /**
         * Of ten to the power of the open columns' number: in how many cases the tooth rings behind the ticks.
         * A pin is decided upon only when the drum comes to it, so that cases share what they have in common.
         */
        private long weightOfRinging(int decided, int ticks, int open, int tooth, int p) {
            Works box = cases[decided];
            int ticksLeft = ticks;
            for (; ticksLeft > 0 && !box.comesTo(open); ticksLeft--) {
                box.turn();
            }
            if (ticksLeft == 0 || decided >= MOST_COLUMNS) {
                return box.rings[tooth] > 0 ? tenToThe(Integer.bitCount(open)) : 0;
            }
            int column = box.columnBehind();
            int openYet = open & ~(1 << column);
            Works next = cases[decided + 1];
            long weight = 0;
            if (p < 10) {
                next.takeFrom(box);
                weight += (10 - p) * weightOfRinging(decided + 1, ticksLeft, openYet, tooth, p);
            }
            if (p > 0) {
                next.takeFrom(box);
                next.togglePin(column, tooth);
                weight += p * weightOfRinging(decided + 1, ticksLeft, openYet, tooth, p);
            }
            return weight;
        }

        private static long tenToThe(int n) {
            long power = 1;
            for (int i = 0; i < n; i++) {
                power *= 10;
            }
            return power;
        }

        private static long commonDivisor(long a, long b) {
            long one = a;
            long other = b;
            for (int i = 0; i < 1000 && other != 0; i++) {
                long rest = one % other;
                one = other;
                other = rest;
            }
            return one;
        }

        int days(int n, int seed, int what) {
            if (now.columns == 0 || now.teeth == 0) {
                return 0;
            }
            trial.takeFrom(now);
            long x = seed;
            int plucks = 0;
            int loud = 0;
            for (int i = 0; i < n; i++) {
                x = x * FACTOR % MODULUS;
                draw((int) x);
                plucks += trial.turn();
                loud += trial.loud();
            }
            return what == 0 ? plucks : loud;
        }

        private void draw(int x) {
            if (trial.spring == 0) {
                trial.spring = x % 30;
            } else if (x % 3 == 0) {
                trial.pinned[x % trial.columns] = x % 64;
            }
            int tooth = x % trial.teeth;
            if (trial.isBroken(tooth)) {
                trial.makeWhole(tooth);
            }
        }
    }

    /** The asks of a tooth: which body begins, what it gives, and the trace that the bodies leave. */
    private static final class Asking {
        private static final int ASK_SIZE = 0, ASK_MARK = 1, DEEPEST = 20;
        /** By kinds: the body told for it, else that of the nearest kind that it is, too, else the one that is lent. */
        private static final int[] SIZE_BODIES = {10, 11, 12, 11, 13, 14};
        private static final int[] MARK_BODIES = {20, 21, 24, 22, 23, 23};

        private final Works now;
        final int[] left = new int[MOST_TRACE];
        int length;

        Asking(Works box) {
            now = box;
        }

        int start(int what, int one) {
            length = 0;
            return answer(what, one, 0);
        }

        private int answer(int what, int one, int depth) {
            int kind = now.kinds[one];
            return body(what == ASK_SIZE ? SIZE_BODIES[kind] : MARK_BODIES[kind], one, depth + 1);
        }

        private int body(int number, int one, int depth) {
            if (depth > DEEPEST) {
                return 0;
            }
            leave(number);
            switch (number) {
                case 10: return now.tuned[one];
                case 11: return body(10, one, depth + 1) + answer(ASK_MARK, one, depth + 1);
                case 12: return -body(11, one, depth + 1);
                case 13: return body(10, one, depth + 1) - 100;
                case 14: return 2 * body(13, one, depth + 1);
                case 20: return one;
                case 21: return body(20, one, depth + 1) + now.rings[one];
                case 22: return body(21, one, depth + 1) - 1000;
                case 23: return body(20, one, depth + 1) - answer(ASK_SIZE, one, depth + 1);
                case 24: return 2 * body(21, one, depth + 1);
                default: return 0;
            }
        }

        private void leave(int number) {
            if (length < MOST_TRACE) {
                left[length] = number;
                length++;
            }
        }
    }
}

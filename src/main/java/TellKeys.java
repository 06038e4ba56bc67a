/**
 * The key that tells: a house with doors, keys that stain and show it by days, and the sisters who use them.
 * What each call promises stands in ../shared/DOC.md; the names here are the document's words.
 * No call makes an object: every row is made with the object and used again.
 */
public final class TellKeys {
    public static final int BAD = -1, NOT = -2, FULL = -3, NONE = -4, NULL = -11, CAST = -12, INDEX = -13, SIZE = -14;

    private static final int HALL = 0, LAST_ROOM = 9, GARDEN = 10, PLACES = 11;
    private static final int MOST_DOORS = 16, STEP = 16, NO_LOCK = 8, NO_WAY = -1, UNSAID = -1;
    private static final int MOST_KEYS = 8, EVERY_KEY = 255, SISTERS = 4, HOOK = 4;
    private static final int KINDS = 4, BRASS = 1, GLASS = 2, SILVER = 3;
    private static final int LAST_DAY = 999, MOST_MINUTES = 30, LAST_DAY_BEEN = 99, LAST_DAY_LOOKED = 6;
    private static final int MOST_BYTES = 160, WORD_BYTES = 8, FIRST_SIGN = 32, LAST_SIGN = 126;
    private static final int END = -1, NO_NUMBER = -1, FAULT = -20;
    private static final int MOST_ASKED = 6, NO_ROW = -1;
    private static final int SHEETS = 4, LANES = 3, BYTES = 0, SHORTS = 1, MOST_ITEMS = 24, NOTHING = -1;

    private final Doors doors = new Doors();
    private final Keys keys = new Keys();
    private int today = 0;

    private final Doors imageDoors = new Doors();
    private final Keys imageKeys = new Keys();
    private int imageToday = 0;
    private boolean imageKept = false;

    private final Tape tape = new Tape();
    private final Doors readDoors = new Doors();
    private final Act act = new Act();
    private final Ways ways = new Ways();
    private final Asking asking = new Asking();
    private final Sheet[] sheets = new Sheet[SHEETS];

    public TellKeys() {
        for (int i = 0; i < SHEETS; i++) {
            sheets[i] = new Sheet();
        }
    }

    // ---- 1 doors, keys

    public int door(int a, int b, int lock) {
        if (!isPlace(a) || !isPlace(b) || !mayHaveDoor(a, b) || lock < 0 || lock > NO_LOCK) {
            return BAD;
        }
        return doors.add(a, b, lock);
    }

    public int key(int kind, int tells) {
        if (!isKind(kind) || tells < 0 || tells > 1) {
            return BAD;
        }
        return keys.add(kind, tells);
    }

    public int told(int key, int what) {
        if (!keys.has(key)) {
            return BAD;
        }
        switch (what) {
            case 0: return keys.kind[key];
            case 1: return keys.tells[key];
            case 2: return keys.where[key];
            case 3: return keys.minutes[key];
            case 4: return keys.gotOn[key];
            default: return BAD;
        }
    }

    public int of(int door, int what) {
        if (!doors.has(door)) {
            return BAD;
        }
        switch (what) {
            case 0: return doors.one[door];
            case 1: return doors.other[door];
            case 2: return doors.lock[door];
            default: return BAD;
        }
    }

    public int type(long w, int n) {
        if (n < 1 || n > WORD_BYTES) {
            return BAD;
        }
        for (int i = 0; i < n; i++) {
            int sign = byteOf(w, i);
            if (sign < FIRST_SIGN || sign > LAST_SIGN) {
                return BAD;
            }
        }
        if (n > MOST_BYTES - tape.size) {
            return FULL;
        }
        for (int i = n - 1; i >= 0; i--) {
            tape.add(byteOf(w, i));
        }
        return tape.size;
    }

    public int house() {
        int answer = readHouse();
        tape.empty();
        return answer;
    }

    public int week() {
        int answer = readWeek(false);
        if (answer >= 0) {
            answer = readWeek(true);
        }
        tape.empty();
        return answer;
    }

    public int count(int what) {
        switch (what) {
            case 0: return doors.number;
            case 1: return keys.number;
            case 2: return keys.stained();
            case 3: return today;
            case 4: return keys.showing(today);
            case 5: return doors.at(GARDEN);
            default: return BAD;
        }
    }

    // ---- 2 acts

    public int visit(int sister, int room, int minutes) {
        if (!isSister(sister) || !isPlace(room) || !isStay(minutes)) {
            return BAD;
        }
        int ring = keys.ring(sister, false);
        ways.measure(doors, room, ring);
        int far = ways.far[HALL];
        if (far == NO_WAY) {
            return NOT;
        }
        keys.stain(ways.locksFromHall(doors, ring), minutes, today);
        return 2 * far + minutes;
    }

    public int wash(int sister, int key) {
        if (!isSister(sister) || !keys.has(key)) {
            return BAD;
        }
        if (keys.where[key] != sister || keys.kind[key] != SILVER) {
            return NOT;
        }
        keys.halve(key);
        return keys.minutes[key];
    }

    public int change(int key, int to) {
        if (!keys.has(key) || to < 0 || to > HOOK) {
            return BAD;
        }
        int was = keys.where[key];
        if (was == to) {
            return NOT;
        }
        keys.where[key] = to;
        return was;
    }

    public int next() {
        if (today >= LAST_DAY) {
            return FULL;
        }
        today++;
        return today;
    }

    public int shown(int key, int day) {
        if (!keys.has(key) || !isDayAhead(day)) {
            return BAD;
        }
        return keys.showsOn(key, day);
    }

    public int seen(int sister, int room, int what) {
        if (!isSister(sister) || !isPlace(room) || what < 0 || what > 1) {
            return BAD;
        }
        ways.measure(doors, HALL, keys.ring(sister, what == 1));
        int far = ways.far[room];
        return far == NO_WAY ? NONE : 2 * far;
    }

    public int reach(int keys) {
        if (keys < 0 || keys >= 1 << this.keys.number) {
            return BAD;
        }
        ways.measure(doors, HALL, keys);
        int rooms = 0;
        for (int place = 0; place < PLACES; place++) {
            if (ways.far[place] != NO_WAY) {
                rooms |= 1 << place;
            }
        }
        return rooms;
    }

    public int fits(int doors, int lock, int far) {
        if (doors < UNSAID || doors > MOST_DOORS || lock < UNSAID || lock > NO_LOCK) {
            return BAD;
        }
        if (far < UNSAID || far == 0 || far >= PLACES) {
            return BAD;
        }
        ways.measure(this.doors, HALL, EVERY_KEY);
        int rooms = 0;
        for (int room = 1; room <= LAST_ROOM; room++) {
            boolean doorsFit = doors == UNSAID || this.doors.at(room) == doors;
            boolean lockFits = lock == UNSAID || this.doors.hasLockAt(room, lock);
            boolean farFits = far == UNSAID || ways.far[room] == far;
            if (doorsFit && lockFits && farFits) {
                rooms |= 1 << room;
            }
        }
        return rooms;
    }

    // ---- 3 asked

    public int been(int kind, int much, int day) {
        if (!isKind(kind) || much < 0 || much > MOST_MINUTES || day < 0 || day > LAST_DAY_BEEN) {
            return BAD;
        }
        int stains = much == 0 ? 1 : 0;
        for (int minutes = 1; minutes <= MOST_MINUTES; minutes++) {
            for (int gotOn = 0; gotOn <= day; gotOn++) {
                if (Keys.shows(kind, minutes, day - gotOn) == much) {
                    stains++;
                }
            }
        }
        return stains;
    }

    public int look(int kind, int minutes, int what) {
        if (!isKind(kind) || !isStay(minutes) || what < 0 || what > 1) {
            return BAD;
        }
        int rests = 0;
        int first = NONE;
        for (int hers = 0; hers <= LAST_DAY_LOOKED; hers++) {
            for (int his = 0; his <= LAST_DAY_LOOKED; his++) {
                if (isRest(kind, minutes, hers, his)) {
                    rests++;
                    first = first == NONE ? 10 * hers + his : first;
                }
            }
        }
        return what == 0 ? rests : first;
    }

    public int image() {
        imageDoors.becomeLike(doors);
        imageKeys.becomeLike(keys);
        imageToday = today;
        imageKept = true;
        return 1;
    }

    public int restore() {
        if (!imageKept) {
            return NONE;
        }
        doors.becomeLike(imageDoors);
        keys.becomeLike(imageKeys);
        today = imageToday;
        return 1;
    }

    // ---- 4 sheets

    public int asked(int sheet, int lane, int from, int n, int i) {
        if (n < 1 || n > MOST_ASKED || i < -1 || i >= n) {
            return BAD;
        }
        int refusal = refusalOf(sheet, lane);
        if (refusal != 0) {
            return refusal;
        }
        if (!sheets[sheet].holds(from, 2 * n)) {
            return INDEX;
        }
        if (!takeAsked(sheets[sheet], from, n)) {
            return NOT;
        }
        tryRows(asking, 0, 0);
        if (asking.fewest == NO_ROW) {
            return NONE;
        }
        return i < 0 ? asking.fewest : asking.best[i];
    }

    public int film(int sheet, int lane, int from) {
        int refusal = refusalOf(sheet, lane);
        if (refusal != 0) {
            return refusal;
        }
        if (!sheets[sheet].holds(from, keys.number)) {
            return INDEX;
        }
        for (int key = 0; key < keys.number; key++) {
            sheets[sheet].put(from + key, keys.minutes[key]);
        }
        return keys.number;
    }

    public int sheet(int sheet, int lane, int n) {
        if (!isSheet(sheet) || !isLane(lane) || n > MOST_ITEMS) {
            return BAD;
        }
        if (n < 0) {
            return SIZE;
        }
        sheets[sheet].renew(lane, n);
        return n;
    }

    public int drop(int sheet) {
        if (!isSheet(sheet)) {
            return BAD;
        }
        int size = sheets[sheet].size;
        if (size == NOTHING) {
            return NULL;
        }
        sheets[sheet].size = NOTHING;
        return size;
    }

    public int item(int sheet, int lane, int i, int v) {
        int refusal = refusalOf(sheet, lane);
        if (refusal != 0) {
            return refusal;
        }
        if (!sheets[sheet].holds(i, 1)) {
            return INDEX;
        }
        sheets[sheet].put(i, v);
        return 1;
    }

    public int copy(int from, int i, int to, int j, int n) {
        if (!isSheet(from) || !isSheet(to)) {
            return BAD;
        }
        Sheet source = sheets[from];
        Sheet target = sheets[to];
        if (source.size == NOTHING || target.size == NOTHING) {
            return NULL;
        }
        if (source.lane != target.lane) {
            return CAST;
        }
        if (!source.holds(i, n) || !target.holds(j, n)) {
            return INDEX;
        }
        System.arraycopy(source.items, i, target.items, j, n);
        return n;
    }

    // ---- what numbers may be

    private static boolean isPlace(int place) {
        return place >= HALL && place <= GARDEN;
    }

    /** Of two places; THE HALL and THE GARDEN, the only two so far apart in number, have THE STEP instead. */
    private static boolean mayHaveDoor(int a, int b) {
        return a != b && Math.abs(a - b) != GARDEN - HALL;
    }

    private static boolean isKind(int kind) {
        return kind >= 0 && kind < KINDS;
    }

    private static boolean isSister(int sister) {
        return sister >= 0 && sister < SISTERS;
    }

    private static boolean isStay(int minutes) {
        return minutes >= 0 && minutes <= MOST_MINUTES;
    }

    private boolean isDayAhead(int day) {
        return day >= today && day <= LAST_DAY;
    }

    private static boolean isSheet(int sheet) {
        return sheet >= 0 && sheet < SHEETS;
    }

    private static boolean isLane(int lane) {
        return lane >= 0 && lane < LANES;
    }

    private static int byteOf(long w, int i) {
        return (int) (w >> 8 * i) & 255;
    }

    /** Why a sheet can't be taken as a row of a lane; 0 if it can. */
    private int refusalOf(int sheet, int lane) {
        if (!isSheet(sheet) || !isLane(lane)) {
            return BAD;
        }
        if (sheets[sheet].size == NOTHING) {
            return NULL;
        }
        return sheets[sheet].lane == lane ? 0 : CAST;
    }

    // ---- texts

    private int readHouse() {
        tape.at = 0;
        readDoors.number = 0;
        boolean more = true;
        for (int n = 1; more && n <= MOST_DOORS; n++) {
            if (!readDoor()) {
                return tape.fault();
            }
            more = n < MOST_DOORS && tape.take(',');
        }
        if (tape.ahead() != END) {
            return tape.fault();
        }
        doors.becomeLike(readDoors);
        return doors.number;
    }

    private boolean readDoor() {
        int a = tape.placeAhead();
        if (a == NO_NUMBER) {
            return false;
        }
        tape.at++;
        if (!tape.take('-')) {
            return false;
        }
        int b = tape.placeAhead();
        if (b == NO_NUMBER || !mayHaveDoor(a, b)) {
            return false;
        }
        tape.at++;
        int lock = NO_LOCK;
        if (tape.take('l')) {
            lock = tape.digit(MOST_KEYS);
        }
        return lock != NO_NUMBER && readDoors.add(a, b, lock) >= 0;
    }

    /** Read twice, as a fault at the end must leave the acts before it undone. */
    private int readWeek(boolean doing) {
        tape.at = 0;
        int acts = 0;
        boolean more = true;
        for (int n = 0; more && n < MOST_BYTES; n++) {
            if (!readAct()) {
                return tape.fault();
            }
            if (doing && !doAct()) {
                return acts;
            }
            acts++;
            more = tape.take(';');
        }
        return tape.ahead() == END ? acts : tape.fault();
    }

    private boolean readAct() {
        act.sign = tape.ahead();
        switch (act.sign) {
            case 'v':
                tape.at++;
                return readVisit();
            case 'w':
                tape.at++;
                act.sister = tape.digit(SISTERS);
                act.key = act.sister == NO_NUMBER ? NO_NUMBER : tape.digit(keys.number);
                return act.key != NO_NUMBER;
            case 'c':
                tape.at++;
                act.key = tape.digit(keys.number);
                act.to = act.key != NO_NUMBER && tape.take('>') ? tape.digit(HOOK + 1) : NO_NUMBER;
                return act.to != NO_NUMBER;
            case 'n':
                tape.at++;
                return true;
            default:
                return false;
        }
    }

    private boolean readVisit() {
        act.sister = tape.digit(SISTERS);
        if (act.sister == NO_NUMBER || !tape.take('>')) {
            return false;
        }
        act.to = tape.digit(LAST_ROOM + 1);
        if (act.to == NO_NUMBER || !tape.take(':')) {
            return false;
        }
        act.minutes = tape.numberUpTo(MOST_MINUTES);
        return act.minutes != NO_NUMBER;
    }

    private boolean doAct() {
        switch (act.sign) {
            case 'v': return visit(act.sister, act.to, act.minutes) >= 0;
            case 'w': return wash(act.sister, act.key) >= 0;
            case 'c': return change(act.key, act.to) >= 0;
            default: return next() >= 0;
        }
    }

    // ---- what one would choose

    /** What she has by the two days; he would have the same as little as can be. */
    private static int hersBy(int kind, int minutes, int hers, int his) {
        boolean caught = his >= hers && Keys.shows(kind, minutes, his - hers) > 0;
        return caught ? 0 : 10 - hers;
    }

    private static boolean isRest(int kind, int minutes, int hers, int his) {
        int has = hersBy(kind, minutes, hers, his);
        for (int day = 0; day <= LAST_DAY_LOOKED; day++) {
            if (hersBy(kind, minutes, day, his) > has || hersBy(kind, minutes, hers, day) < has) {
                return false;
            }
        }
        return true;
    }

    /** Takes what each sister has and when she is asked; false if it is not as told. */
    private boolean takeAsked(Sheet sheet, int from, int n) {
        int taken = 0;
        for (int i = 0; i < n; i++) {
            int key = sheet.items[from + 2 * i];
            int day = sheet.items[from + 2 * i + 1];
            if (!keys.has(key) || !isDayAhead(day) || (taken >> key & 1) != 0) {
                return false;
            }
            taken |= 1 << key;
            asking.key[i] = key;
            asking.day[i] = day;
        }
        asking.number = n;
        asking.fewest = NO_ROW;
        for (int i = 0; i < n; i++) {
            asking.clean[i] = cleanFor(asking.day[i]);
        }
        return true;
    }

    /** The sisters whose keys show nothing on a day, as a set. */
    private int cleanFor(int day) {
        int set = 0;
        for (int owner = 0; owner < asking.number; owner++) {
            if (keys.showsOn(asking.key[owner], day) == 0) {
                set |= 1 << owner;
            }
        }
        return set;
    }

    /** Goes through the rows from the first on, so that the first one of those with the fewest changes stays. */
    private static void tryRows(Asking asking, int i, int used) {
        if (i >= asking.number) {
            asking.weigh();
            return;
        }
        for (int owner = 0; owner < asking.number; owner++) {
            if (((asking.clean[i] & ~used) >> owner & 1) != 0) {
                asking.row[i] = owner;
                tryRows(asking, i + 1, used | 1 << owner);
            }
        }
    }

    /** The doors of a house, THE STEP always behind them as door 16. */
    private static final class Doors {
        int number = 0;
        final int[] one = new int[STEP + 1];
        final int[] other = new int[STEP + 1];
        final int[] lock = new int[STEP + 1];

        Doors() {
            one[STEP] = HALL;
            other[STEP] = GARDEN;
            lock[STEP] = NO_LOCK;
        }

        boolean has(int door) {
            return door >= 0 && door < number;
        }

        int add(int a, int b, int withLock) {
            if (number >= MOST_DOORS) {
                return FULL;
            }
            one[number] = a;
            other[number] = b;
            lock[number] = withLock;
            number++;
            return number - 1;
        }

        void becomeLike(Doors model) {
            number = model.number;
            System.arraycopy(model.one, 0, one, 0, MOST_DOORS);
            System.arraycopy(model.other, 0, other, 0, MOST_DOORS);
            System.arraycopy(model.lock, 0, lock, 0, MOST_DOORS);
        }

        boolean isAt(int door, int place) {
            return one[door] == place || other[door] == place;
        }

        int at(int place) {
            int found = 0;
            for (int door = 0; door < number; door++) {
                found += isAt(door, place) ? 1 : 0;
            }
            return found;
        }

        boolean hasLockAt(int place, int sought) {
            for (int door = 0; door < number; door++) {
                if (isAt(door, place) && lock[door] == sought) {
                    return true;
                }
            }
            return false;
        }

        boolean canPass(int door, int keySet) {
            boolean there = door >= 0 && door < number || door == STEP;
            return there && (lock[door] == NO_LOCK || (keySet >> lock[door] & 1) != 0);
        }
    }

    /** The keys with their stains; a stain of 0 minutes is none, and its day is 0. */
    private static final class Keys {
        int number = 0;
        final int[] kind = new int[MOST_KEYS];
        final int[] tells = new int[MOST_KEYS];
        final int[] where = new int[MOST_KEYS];
        final int[] minutes = new int[MOST_KEYS];
        final int[] gotOn = new int[MOST_KEYS];

        boolean has(int key) {
            return key >= 0 && key < number;
        }

        int add(int ofKind, int telling) {
            if (number >= MOST_KEYS) {
                return FULL;
            }
            kind[number] = ofKind;
            tells[number] = telling;
            where[number] = HOOK;
            minutes[number] = 0;
            gotOn[number] = 0;
            number++;
            return number - 1;
        }

        void becomeLike(Keys model) {
            number = model.number;
            System.arraycopy(model.kind, 0, kind, 0, MOST_KEYS);
            System.arraycopy(model.tells, 0, tells, 0, MOST_KEYS);
            System.arraycopy(model.where, 0, where, 0, MOST_KEYS);
            System.arraycopy(model.minutes, 0, minutes, 0, MOST_KEYS);
            System.arraycopy(model.gotOn, 0, gotOn, 0, MOST_KEYS);
        }

        int ring(int sister, boolean silentOnly) {
            int set = 0;
            for (int key = 0; key < number; key++) {
                if (where[key] == sister && !(silentOnly && tells[key] == 1)) {
                    set |= 1 << key;
                }
            }
            return set;
        }

        void stain(int used, int stayed, int today) {
            for (int key = 0; key < number; key++) {
                if ((used >> key & 1) != 0 && tells[key] == 1 && minutes[key] < stayed) {
                    minutes[key] = stayed;
                    gotOn[key] = today;
                }
            }
        }

        void halve(int key) {
            minutes[key] = minutes[key] / 2;
            if (minutes[key] == 0) {
                gotOn[key] = 0;
            }
        }

        int stained() {
            int found = 0;
            for (int key = 0; key < number; key++) {
                found += minutes[key] > 0 ? 1 : 0;
            }
            return found;
        }

        int showing(int day) {
            int found = 0;
            for (int key = 0; key < number; key++) {
                found += showsOn(key, day) > 0 ? 1 : 0;
            }
            return found;
        }

        int showsOn(int key, int day) {
            return shows(kind[key], minutes[key], day - gotOn[key]);
        }

        static int shows(int ofKind, int stain, int days) {
            int much = days;
            if (ofKind == BRASS || ofKind == SILVER) {
                much = Math.max(0, days - 2);
            } else if (ofKind == GLASS) {
                much = 2 * days;
            }
            return Math.min(stain, much);
        }
    }

    /** How many doors each place is away from one of them, by what a set of keys lets pass. */
    private static final class Ways {
        final int[] far = new int[PLACES];

        void measure(Doors doors, int from, int keySet) {
            for (int place = 0; place < PLACES; place++) {
                far[place] = place == from ? 0 : NO_WAY;
            }
            for (int steps = 0; steps < PLACES - 1; steps++) {
                for (int door = 0; door <= STEP; door++) {
                    if (doors.canPass(door, keySet)) {
                        spread(doors.one[door], doors.other[door], steps);
                        spread(doors.other[door], doors.one[door], steps);
                    }
                }
            }
        }

        private void spread(int near, int beyond, int steps) {
            if (far[near] == steps && far[beyond] == NO_WAY) {
                far[beyond] = steps + 1;
            }
        }

        /**
         * The locks on the first of the shortest ways from THE HALL to the place measured from, as a set:
         * of doors that lead one nearer, the lowest is always the first of some shortest way.
         */
        int locksFromHall(Doors doors, int keySet) {
            int locks = 0;
            int place = HALL;
            for (int left = far[HALL]; left > 0; left--) {
                int door = doorNearer(doors, keySet, place, left);
                if (doors.lock[door] != NO_LOCK) {
                    locks |= 1 << doors.lock[door];
                }
                place = doors.one[door] == place ? doors.other[door] : doors.one[door];
            }
            return locks;
        }

        private int doorNearer(Doors doors, int keySet, int place, int left) {
            for (int door = 0; door < STEP; door++) {
                if (doors.canPass(door, keySet) && doors.isAt(door, place)) {
                    int beyond = doors.one[door] == place ? doors.other[door] : doors.one[door];
                    if (far[beyond] == left - 1) {
                        return door;
                    }
                }
            }
            return STEP;
        }
    }

    /** THE TAPE, and how far it is read. What can't be read is left ahead, and is the fault then. */
    private static final class Tape {
        int size = 0;
        int at = 0;
        final byte[] signs = new byte[MOST_BYTES];

        void add(int sign) {
            if (size < MOST_BYTES) {
                signs[size] = (byte) sign;
                size++;
            }
        }

        void empty() {
            size = 0;
        }

        int ahead() {
            while (at < size && signs[at] == ' ') {
                at++;
            }
            return at < size ? signs[at] : END;
        }

        int fault() {
            ahead();
            return FAULT - at;
        }

        boolean take(int sign) {
            if (ahead() != sign) {
                return false;
            }
            at++;
            return true;
        }

        int placeAhead() {
            int sign = ahead();
            if (sign == 'g') {
                return GARDEN;
            }
            return isDigit(sign) ? sign - '0' : NO_NUMBER;
        }

        /** A digit below a bound. */
        int digit(int bound) {
            int sign = ahead();
            if (!isDigit(sign) || sign - '0' >= bound) {
                return NO_NUMBER;
            }
            at++;
            return sign - '0';
        }

        int numberUpTo(int most) {
            if (!isDigit(ahead())) {
                return NO_NUMBER;
            }
            int start = at;
            int value = 0;
            while (at < size && isDigit(signs[at])) {
                // held just above the bound, as a row of digits may be longer than an int
                value = Math.min(10 * value + signs[at] - '0', most + 1);
                at++;
            }
            if (value > most) {
                at = start;
                return NO_NUMBER;
            }
            return value;
        }

        private static boolean isDigit(int sign) {
            return sign >= '0' && sign <= '9';
        }
    }

    /** One act of a week, as it was read. */
    private static final class Act {
        int sign = 0;
        int sister = 0;
        int key = 0;
        int to = 0;
        int minutes = 0;
    }

    /** Sisters who are asked: their keys, their days, whose keys are clean then, and the best row found. */
    private static final class Asking {
        int number = 0;
        int fewest = NO_ROW;
        final int[] key = new int[MOST_ASKED];
        final int[] day = new int[MOST_ASKED];
        final int[] clean = new int[MOST_ASKED];
        final int[] row = new int[MOST_ASKED];
        final int[] best = new int[MOST_ASKED];

        void weigh() {
            int changes = changesTo();
            if (fewest == NO_ROW || changes < fewest) {
                fewest = changes;
                System.arraycopy(row, 0, best, 0, number);
            }
        }

        /** A circle of sisters who pass their keys on takes one change less than it has sisters. */
        private int changesTo() {
            int changes = number;
            int passed = 0;
            for (int i = 0; i < number; i++) {
                if ((passed >> i & 1) == 0) {
                    changes--;
                }
                int at = i;
                for (int steps = 0; steps < number && (passed >> at & 1) == 0; steps++) {
                    passed |= 1 << at;
                    at = row[at];
                }
            }
            return changes;
        }
    }

    /** A row of a lane, or nothing; the items are kept as ints, each cut to its lane. */
    private static final class Sheet {
        int lane = BYTES;
        int size = NOTHING;
        final int[] items = new int[MOST_ITEMS];

        void renew(int ofLane, int n) {
            lane = ofLane;
            size = n;
            for (int i = 0; i < MOST_ITEMS; i++) {
                items[i] = 0;
            }
        }

        /** Whether n items from one on are there; size less from can't overflow, from and n could. */
        boolean holds(int from, int n) {
            return from >= 0 && n >= 0 && from <= size && n <= size - from;
        }

        void put(int i, int v) {
            if (lane == BYTES) {
                items[i] = (byte) v;
            } else {
                items[i] = lane == SHORTS ? (short) v : v;
            }
        }
    }
}

public final class OneStair {
    public static final int BAD = -1, FULL = -2, NONE = -3, STATE = -4;

    private static final int MISSING = -11, OUTSIDE = -12, OTHER_SORT = -13, SIZE_BELOW_ZERO = -14, PARTED_BY_ZERO = -15;
    private static final int NOT_YET = -9, NO_ROW = -9;
    private static final int FAULT_BASE = -100;

    private static final int CLERK = 0, LIMPER = 1, RUNNER = 2, CHIEF = 3, PORTER = 4, BOY = 5;

    private static final int TOP_FLOOR = 9, FLIGHTS = 9;
    private static final int MOST_PEOPLE = 8, MOST_HATS = 4, MOST_A = 9;
    private static final int FIRST_ROOM = 2, MOST_ROOM = 9;
    private static final int END = 120, LAST_START = 99, LONGEST_HAT = 30, MOST_MINUTES = 60;
    private static final int NEVER_IN_WORST = 999, NEVER_IN_RENT = 200;
    private static final int MOST_BYTES = 240, MOST_ROWS = 20, ROW_PARTS = 3, MOST_BODIES = 30;
    private static final int SHEETS = 4, SHELVES = 4, MOST_ITEMS = 40;
    private static final int NO_SORT = -1, BYTES = 0, SHORTS = 1, LONGS = 3;
    private static final int HOLDS_PERSON = 0, HOLDS_ROW = 1, HOLDS_NOTHING = 2;
    private static final int AS_ROW = 10;

    private final Tower now = new Tower();
    private final Tower trial = new Tower();
    private final Tower kept = new Tower();
    private boolean anyKept;
    private final Stair stair = new Stair();
    private final Text tape = new Text();
    private final int[][] rows = new int[MOST_ROWS][ROW_PARTS];
    private final int[] rightRow = new int[ROW_PARTS];
    private int rowCount;
    private final Sheet[] sheets = new Sheet[SHEETS];
    private final Shelf[] shelves = new Shelf[SHELVES];
    private final Actor actor = new Actor();

    public OneStair() {
        for (int i = 0; i < SHEETS; i++) {
            sheets[i] = new Sheet();
        }
        for (int i = 0; i < SHELVES; i++) {
            shelves[i] = new Shelf();
        }
    }

    // ---- the tower

    public int feed(long eight, int n) {
        if (!within(n, 1, 8)) {
            return BAD;
        }
        if (tape.length + n > MOST_BYTES) {
            return FULL;
        }
        for (int i = 0; i < n; i++) {
            tape.add((byte) (eight >>> (8 * i)));
        }
        return tape.length;
    }

    public int tower() {
        // The trial's tower is the draft: a text with a fault must leave the tower of now as it was.
        int fault = tape.readInto(trial);
        tape.useUp();
        if (fault != Text.NO_FAULT) {
            return FAULT_BASE - fault;
        }
        trial.z = now.z;
        now.become(trial);
        rowCount = 0;
        return now.count;
    }

    public int room(int v) {
        if (!within(v, 1, MOST_ROOM)) {
            return BAD;
        }
        int old = now.room;
        now.room = v;
        return old;
    }

    public int hat(int flight, int from, int n) {
        if (!isFlight(flight) || !within(from, 0, LAST_START) || !within(n, 1, LONGEST_HAT)) {
            return BAD;
        }
        if (now.hats >= MOST_HATS) {
            return FULL;
        }
        now.addHat(flight, from, n);
        return now.hats;
    }

    public int sweep(int i) {
        if (!within(i, 0, now.hats - 1)) {
            return BAD;
        }
        now.removeHat(i);
        return now.hats;
    }

    public int closed(int flight, int minute) {
        if (!isFlight(flight) || !within(minute, 0, END - 1)) {
            return BAD;
        }
        return now.closedFlights(minute) >> flight & 1;
    }

    public int person(int kind, int a, int floor, int goal) {
        if (!isKind(kind) || !within(a, 0, MOST_A) || !isFloor(floor) || !isFloor(goal)) {
            return BAD;
        }
        if (now.count >= MOST_PEOPLE) {
            return FULL;
        }
        now.addPerson(kind, a, floor, goal, Math.min(now.minute, LAST_START));
        return now.count - 1;
    }

    public int personOf(int person, int what) {
        if (!now.has(person)) {
            return BAD;
        }
        switch (what) {
            case 0: return now.kind[person];
            case 1: return now.a[person];
            case 2: return now.floor[person];
            case 3: return now.goal[person];
            case 4: return now.start[person];
            case 5: return now.half[person];
            case 6: return now.arrived[person];
            case 7: return Kind.takes(now.kind[person], now.a[person]);
            case 8: return Kind.rank(now.kind[person], now.a[person]);
            default: return BAD;
        }
    }

    public int mind(int person, int kind, int a) {
        if (!now.has(person) || !isKind(kind) || !within(a, 0, MOST_A)) {
            return BAD;
        }
        int old = now.kind[person];
        now.kind[person] = kind;
        now.a[person] = a;
        now.half[person] = 0;
        return old;
    }

    public int sends(int person, int goal, int start) {
        if (!now.has(person) || !isFloor(goal) || !within(start, 0, LAST_START)) {
            return BAD;
        }
        int old = now.goal[person];
        now.send(person, goal, start);
        return old;
    }

    public int stand(int person, int floor) {
        if (!now.has(person) || !isFloor(floor)) {
            return BAD;
        }
        int old = now.floor[person];
        now.floor[person] = floor;
        now.half[person] = 0;
        return old;
    }

    public int minute() {
        return now.minute;
    }

    // ---- minutes

    public int minutes(int n) {
        if (!within(n, 0, MOST_MINUTES)) {
            return BAD;
        }
        stair.ready(now);
        for (int i = 0; i < n && now.minute < END; i++) {
            stair.pass(now);
        }
        return now.minute;
    }

    public int clock(int v) {
        if (!within(v, 0, END)) {
            return BAD;
        }
        int old = now.minute;
        now.minute = v;
        return old;
    }

    // ---- what will be

    public int when(int person) {
        if (!now.has(person)) {
            return BAD;
        }
        tryToTheEnd();
        int arrived = trial.arrived[person];
        return arrived == NOT_YET ? NONE : arrived;
    }

    public int last() {
        tryToTheEnd();
        return trial.latestArrival();
    }

    public int waited(int person) {
        if (!now.has(person)) {
            return BAD;
        }
        tryToTheEnd();
        return stair.waits[person];
    }

    public int crowd(int flight) {
        if (!isFlight(flight)) {
            return BAD;
        }
        tryToTheEnd();
        return stair.mostUsed[flight];
    }

    public int there(int floor, int minute) {
        if (!isFloor(floor) || !within(minute, now.minute, END - 1)) {
            return BAD;
        }
        trial.become(now);
        stair.tryUntil(trial, minute + 1);
        return trial.peopleOn(floor);
    }

    public int drill() {
        trial.become(now);
        for (int p = 0; p < trial.count; p++) {
            trial.send(p, 0, now.minute);
        }
        stair.tryUntil(trial, END);
        int latest = trial.latestArrival();
        return latest == NONE ? NONE : latest - now.minute + 1;
    }

    public int early(int person, int by) {
        if (!now.has(person) || !within(by, 0, END - 1)) {
            return BAD;
        }
        int least = now.minute;
        int most = Math.min(LAST_START, by);
        if (least > most || !arrivesBy(by, person, least)) {
            return NONE;
        }
        // Halving is right: only those ahead take room from one, whatever one does, and whoever sets out
        // earlier is never behind where a later START would have brought one.
        while (least < most) {
            int middle = (least + most + 1) / 2;
            if (arrivesBy(by, person, middle)) {
                least = middle;
            } else {
                most = middle - 1;
            }
        }
        return least;
    }

    public int swap() {
        int best = NONE;
        int bestLatest = END;
        for (int p = 0; p < now.count; p++) {
            for (int q = p + 1; q < now.count; q++) {
                if (now.arrived[p] != NOT_YET || now.arrived[q] != NOT_YET) {
                    continue;
                }
                int latest = latestWithSwap(p, q, bestLatest);
                if (latest != NONE && latest < bestLatest) {
                    bestLatest = latest;
                    best = 10 * p + q;
                }
            }
        }
        return best;
    }

    public int enough(int by) {
        if (!within(by, 0, END - 1)) {
            return BAD;
        }
        for (int room = 1; room <= MOST_ROOM; room++) {
            trial.become(now);
            trial.room = room;
            stair.tryUntil(trial, by + 1);
            if (trial.allArrivedBy(by)) {
                return room;
            }
        }
        return NONE;
    }

    public int worst(int n) {
        if (!within(n, 1, LONGEST_HAT)) {
            return BAD;
        }
        if (now.hats >= MOST_HATS) {
            return FULL;
        }
        if (now.minute > LAST_START) {
            return STATE;
        }
        int worst = 0;
        int worstLatest = -1;
        for (int flight = 0; flight < FLIGHTS; flight++) {
            trial.become(now);
            trial.addHat(flight, now.minute, n);
            stair.tryUntil(trial, END);
            int latest = trial.latestArrival();
            if (latest == NONE) {
                latest = NEVER_IN_WORST;
            }
            if (latest > worstLatest) {
                worstLatest = latest;
                worst = flight;
            }
        }
        return worst;
    }

    public int rent(int floor) {
        return isFloor(floor) ? rentOfFloor(floor) : BAD;
    }

    public int cheapest() {
        int cheapest = 0;
        int least = rentOfFloor(0);
        for (int floor = 1; floor <= TOP_FLOOR; floor++) {
            int rent = rentOfFloor(floor);
            if (rent < least) {
                least = rent;
                cheapest = floor;
            }
        }
        return cheapest;
    }

    public int seed(int v) {
        int old = now.z;
        now.z = v;
        return old;
    }

    public int lot(int person) {
        if (!now.has(person)) {
            return BAD;
        }
        now.z = now.z * 1103515245 + 12345;
        now.start[person] = (now.z >>> 16) % 100;
        return now.start[person];
    }

    // ---- rows

    public int prove(int n) {
        if (!within(n, 1, MOST_ROWS)) {
            return BAD;
        }
        trial.become(now);
        stair.ready(trial);
        rowCount = Math.min(n, END - now.minute);
        for (int i = 0; i < rowCount; i++) {
            passAndTell(rows[i]);
        }
        return rowCount;
    }

    public int row(int i, int what) {
        return isInRows(i, what) ? rows[i][what] : NO_ROW;
    }

    public int alterRow(int i, int what, int v) {
        if (!isInRows(i, what)) {
            return NO_ROW;
        }
        int old = rows[i][what];
        rows[i][what] = v;
        return old;
    }

    public int judge() {
        trial.become(now);
        stair.ready(trial);
        for (int i = 0; i < rowCount; i++) {
            if (trial.minute >= END) {
                return i + 1;
            }
            passAndTell(rightRow);
            if (!isRight(rows[i])) {
                return i + 1;
            }
        }
        return 0;
    }

    public int starts(int sheet, int i, int person, int n) {
        if (!isSheet(sheet) || !now.has(person) || !within(n, 0, MOST_PEOPLE) || person + n > now.count) {
            return BAD;
        }
        Sheet from = sheets[sheet];
        if (from.sort == NO_SORT) {
            return MISSING;
        }
        if (from.sort != SHORTS) {
            return OTHER_SORT;
        }
        if (!within(i, 0, from.length - n)) {
            return OUTSIDE;
        }
        for (int k = 0; k < n; k++) {
            now.start[person + k] = Math.max(0, Math.min(LAST_START, from.items[i + k]));
        }
        return n;
    }

    // ---- the host

    public int sheet(int sheet, int sort, int n) {
        if (!isSheet(sheet) || !within(sort, NO_SORT, LONGS)) {
            return BAD;
        }
        if (sort == NO_SORT) {
            sheets[sheet].renew(NO_SORT, 0);
            return 1;
        }
        if (n > MOST_ITEMS) {
            return BAD;
        }
        if (n < 0) {
            return SIZE_BELOW_ZERO;
        }
        sheets[sheet].renew(sort, n);
        return 1;
    }

    public int put(int sheet, int i, int v) {
        if (!isSheet(sheet)) {
            return BAD;
        }
        Sheet into = sheets[sheet];
        if (into.sort == NO_SORT) {
            return MISSING;
        }
        if (!within(i, 0, into.length - 1)) {
            return OUTSIDE;
        }
        into.items[i] = into.narrowed(v);
        return 1;
    }

    public int item(int sheet, int sort, int i) {
        if (!isSheet(sheet) || !isSort(sort)) {
            return BAD;
        }
        Sheet from = sheets[sheet];
        if (from.sort == NO_SORT) {
            return MISSING;
        }
        if (from.sort != sort) {
            return OTHER_SORT;
        }
        if (!within(i, 0, from.length - 1)) {
            return OUTSIDE;
        }
        return from.items[i];
    }

    public int shelf(int shelf, int what, int n) {
        if (!isShelf(shelf)) {
            return BAD;
        }
        switch (what) {
            case HOLDS_PERSON:
                if (!now.has(n)) {
                    return BAD;
                }
                shelves[shelf].holdPerson(n);
                return 1;
            case HOLDS_ROW:
                if (!isSheet(n)) {
                    return BAD;
                }
                shelves[shelf].holdRowOf(sheets[n]);
                return 1;
            case HOLDS_NOTHING:
                shelves[shelf].holdNothing();
                return 1;
            default:
                return BAD;
        }
    }

    public int taken(int shelf, int as) {
        boolean asRow = isSort(as - AS_ROW);
        if (!isShelf(shelf) || !isKind(as) && !asRow) {
            return BAD;
        }
        Shelf from = shelves[shelf];
        if (from.what == HOLDS_ROW) {
            return asRow && from.sort == as - AS_ROW ? from.length : OTHER_SORT;
        }
        int person = personOn(shelf);
        if (person == NONE) {
            return MISSING;
        }
        return !asRow && Kind.isOrIsUnder(now.kind[person], as) ? person : OTHER_SORT;
    }

    public int act(int shelf, int act, int x) {
        actor.forget();
        int person = personOn(shelf);
        if (person == NONE) {
            return 0;
        }
        actor.play(now.kind[person], person, now.a[person]);
        return actor.perform(act, x);
    }

    public int trace(int i) {
        return within(i, 0, actor.bodyCount - 1) ? actor.bodies[i] : NONE;
    }

    public int many(int what) {
        switch (what) {
            case 0: return now.count;
            case 1: return now.hats;
            case 2: return Integer.bitCount(now.arrivedSet());
            case 3: return rowCount;
            case 4: return tape.length;
            case 5: return actor.bodyCount;
            default: return BAD;
        }
    }

    // ---- kept

    public int keep() {
        kept.become(now);
        anyKept = true;
        return 1;
    }

    public int again() {
        if (!anyKept) {
            return NONE;
        }
        now.become(kept);
        return now.minute;
    }

    // ---- helpers of the calls

    private static boolean within(int v, int least, int most) {
        return v >= least && v <= most;
    }

    private static boolean isFloor(int v) {
        return within(v, 0, TOP_FLOOR);
    }

    private static boolean isFlight(int v) {
        return within(v, 0, FLIGHTS - 1);
    }

    private static boolean isKind(int v) {
        return within(v, CLERK, BOY);
    }

    private static boolean isSheet(int v) {
        return within(v, 0, SHEETS - 1);
    }

    private static boolean isShelf(int v) {
        return within(v, 0, SHELVES - 1);
    }

    private static boolean isSort(int v) {
        return within(v, BYTES, LONGS);
    }

    private boolean isInRows(int i, int what) {
        return within(i, 0, rowCount - 1) && within(what, 0, ROW_PARTS - 1);
    }

    private void tryToTheEnd() {
        trial.become(now);
        stair.tryUntil(trial, END);
    }

    private boolean arrivesBy(int by, int person, int start) {
        trial.become(now);
        trial.send(person, now.goal[person], start);
        stair.tryUntil(trial, by + 1);
        return trial.arrived[person] != NOT_YET;
    }

    /** NONE also if somebody is on the way still at the minute end: behind that no swap is the best any more. */
    private int latestWithSwap(int p, int q, int end) {
        trial.become(now);
        trial.send(p, now.goal[q], now.start[p]);
        trial.send(q, now.goal[p], now.start[q]);
        stair.tryUntil(trial, end);
        return trial.latestArrival();
    }

    private int rentOfFloor(int floor) {
        trial.become(now);
        for (int p = 0; p < trial.count; p++) {
            trial.send(p, floor, now.start[p]);
        }
        stair.tryUntil(trial, END);
        int sum = 0;
        for (int p = 0; p < trial.count; p++) {
            boolean never = trial.arrived[p] == NOT_YET;
            sum += never ? NEVER_IN_RENT : trial.arrived[p] - trial.start[p];
        }
        return sum;
    }

    private void passAndTell(int[] into) {
        into[0] = trial.minute;
        stair.pass(trial);
        into[1] = trial.arrivedSet();
        into[2] = trial.floorSum();
    }

    private boolean isRight(int[] told) {
        for (int i = 0; i < ROW_PARTS; i++) {
            if (told[i] != rightRow[i]) {
                return false;
            }
        }
        return true;
    }

    /** The number of the person on a shelf, or NONE; the one put there may be gone since, by tower() or again(). */
    private int personOn(int shelf) {
        if (!isShelf(shelf) || shelves[shelf].what != HOLDS_PERSON) {
            return NONE;
        }
        int number = shelves[shelf].number;
        return now.has(number) ? number : NONE;
    }

    /** What the kinds have in common and where they differ on the stair. */
    private static final class Kind {
        private static final int[] ABOVE = {-1, CLERK, CLERK, RUNNER, LIMPER, CLERK};
        private static final int DEEPEST = 3;

        static int takes(int kind, int a) {
            switch (kind) {
                case PORTER: return a >= 5 ? 2 : 1;
                case BOY: return 0;
                default: return 1;
            }
        }

        static int rank(int kind, int a) {
            switch (kind) {
                case LIMPER: return 7;
                case PORTER: return 6;
                case RUNNER: return 4;
                case CHIEF: return 0;
                case BOY: return 5 + a;
                default: return 5;
            }
        }

        /** How many steps one may take in a minute: of a half flight for those who go by halves, else of a whole one. */
        static int steps(int kind, int a, int minute) {
            switch (kind) {
                case RUNNER:
                case CHIEF: return a < minute ? 2 : 1;
                case BOY: return (minute + a) % 4 == 0 ? 0 : 1;
                default: return 1;
            }
        }

        static boolean goesByHalves(int kind) {
            return kind == LIMPER || kind == PORTER;
        }

        static boolean isOrIsUnder(int kind, int other) {
            int k = kind;
            for (int i = 0; i < DEEPEST && k >= 0; i++) {
                if (k == other) {
                    return true;
                }
                k = ABOVE[k];
            }
            return false;
        }
    }

    /** All that keep() keeps. One who has HALF 1 is never on the GOAL: whoever gets a GOAL or a FLOOR has HALF 0. */
    private static final class Tower {
        private int count;
        private final int[] kind = new int[MOST_PEOPLE];
        private final int[] a = new int[MOST_PEOPLE];
        private final int[] floor = new int[MOST_PEOPLE];
        private final int[] goal = new int[MOST_PEOPLE];
        private final int[] start = new int[MOST_PEOPLE];
        private final int[] half = new int[MOST_PEOPLE];
        private final int[] arrived = new int[MOST_PEOPLE];
        private int hats;
        private final int[] hatFlight = new int[MOST_HATS];
        private final int[] hatFrom = new int[MOST_HATS];
        private final int[] hatLength = new int[MOST_HATS];
        private int room = FIRST_ROOM;
        private int minute;
        private int z = 1;

        boolean has(int p) {
            return within(p, 0, count - 1);
        }

        /** z is left alone: a text tells all but z. */
        void clear() {
            count = 0;
            hats = 0;
            room = FIRST_ROOM;
            minute = 0;
        }

        void become(Tower other) {
            count = other.count;
            System.arraycopy(other.kind, 0, kind, 0, count);
            System.arraycopy(other.a, 0, a, 0, count);
            System.arraycopy(other.floor, 0, floor, 0, count);
            System.arraycopy(other.goal, 0, goal, 0, count);
            System.arraycopy(other.start, 0, start, 0, count);
            System.arraycopy(other.half, 0, half, 0, count);
            System.arraycopy(other.arrived, 0, arrived, 0, count);
            hats = other.hats;
            System.arraycopy(other.hatFlight, 0, hatFlight, 0, hats);
            System.arraycopy(other.hatFrom, 0, hatFrom, 0, hats);
            System.arraycopy(other.hatLength, 0, hatLength, 0, hats);
            room = other.room;
            minute = other.minute;
            z = other.z;
        }

        void addPerson(int personKind, int personA, int personFloor, int personGoal, int personStart) {
            if (count >= MOST_PEOPLE) {
                return;
            }
            int p = count;
            count++;
            kind[p] = personKind;
            a[p] = personA;
            floor[p] = personFloor;
            send(p, personGoal, personStart);
        }

        void send(int p, int newGoal, int newStart) {
            goal[p] = newGoal;
            start[p] = newStart;
            half[p] = 0;
            arrived[p] = NOT_YET;
        }

        void addHat(int flight, int from, int length) {
            if (hats >= MOST_HATS) {
                return;
            }
            hatFlight[hats] = flight;
            hatFrom[hats] = from;
            hatLength[hats] = length;
            hats++;
        }

        void removeHat(int i) {
            hats--;
            for (int k = i; k < hats; k++) {
                hatFlight[k] = hatFlight[k + 1];
                hatFrom[k] = hatFrom[k + 1];
                hatLength[k] = hatLength[k + 1];
            }
        }

        int closedFlights(int inMinute) {
            int set = 0;
            for (int i = 0; i < hats; i++) {
                if (inMinute >= hatFrom[i] && inMinute < hatFrom[i] + hatLength[i]) {
                    set |= 1 << hatFlight[i];
                }
            }
            return set;
        }

        int arrivedSet() {
            int set = 0;
            for (int p = 0; p < count; p++) {
                if (arrived[p] != NOT_YET) {
                    set |= 1 << p;
                }
            }
            return set;
        }

        int floorSum() {
            int sum = 0;
            for (int p = 0; p < count; p++) {
                sum += floor[p];
            }
            return sum;
        }

        int peopleOn(int onFloor) {
            int people = 0;
            for (int p = 0; p < count; p++) {
                if (floor[p] == onFloor) {
                    people++;
                }
            }
            return people;
        }

        /** NONE if there is nobody, or somebody has not arrived. */
        int latestArrival() {
            int latest = NONE;
            for (int p = 0; p < count; p++) {
                if (arrived[p] == NOT_YET) {
                    return NONE;
                }
                latest = Math.max(latest, arrived[p]);
            }
            return latest;
        }

        boolean allArrivedBy(int by) {
            for (int p = 0; p < count; p++) {
                if (arrived[p] == NOT_YET || arrived[p] > by) {
                    return false;
                }
            }
            return true;
        }
    }

    /** Lets minutes go in a tower, and counts who waited and how crowded it was since ready(). */
    private static final class Stair {
        private final int[] order = new int[MOST_PEOPLE];
        private final int[] rank = new int[MOST_PEOPLE];
        private final int[] takes = new int[MOST_PEOPLE];
        private final int[] waits = new int[MOST_PEOPLE];
        private final int[] usedUp = new int[FLIGHTS];
        private final int[] usedDown = new int[FLIGHTS];
        private final int[] mostUsed = new int[FLIGHTS];
        private int closed;
        private int onTheWay;

        void ready(Tower t) {
            onTheWay = 0;
            for (int p = 0; p < t.count; p++) {
                rank[p] = Kind.rank(t.kind[p], t.a[p]);
                takes[p] = Kind.takes(t.kind[p], t.a[p]);
                waits[p] = 0;
                lineUp(p);
                if (t.arrived[p] == NOT_YET) {
                    onTheWay++;
                }
            }
            for (int f = 0; f < FLIGHTS; f++) {
                mostUsed[f] = 0;
            }
        }

        /** Puts p behind all lesser numbers of the same or a lesser rank, so that of like ones numbers decide. */
        private void lineUp(int p) {
            int place = p;
            while (place > 0 && rank[order[place - 1]] > rank[p]) {
                order[place] = order[place - 1];
                place--;
            }
            order[place] = p;
        }

        /** Ends ahead of its time if all have arrived: nothing that is asked of a trial changes then. */
        void tryUntil(Tower t, int end) {
            ready(t);
            for (int m = t.minute; m < end && onTheWay > 0; m++) {
                pass(t);
            }
        }

        void pass(Tower t) {
            closed = t.closedFlights(t.minute);
            for (int f = 0; f < FLIGHTS; f++) {
                usedUp[f] = 0;
                usedDown[f] = 0;
            }
            for (int i = 0; i < t.count; i++) {
                int p = order[i];
                if (t.arrived[p] == NOT_YET && t.start[p] <= t.minute) {
                    go(t, p);
                }
            }
            t.minute++;
        }

        private void go(Tower t, int p) {
            if (t.floor[p] != t.goal[p]) {
                int steps = Kind.steps(t.kind[p], t.a[p], t.minute);
                int gone = 0;
                while (gone < steps && t.floor[p] != t.goal[p] && enters(t, p)) {
                    step(t, p);
                    gone++;
                }
                if (gone == 0) {
                    waits[p]++;
                }
            }
            if (t.floor[p] == t.goal[p]) {
                t.arrived[p] = t.minute;
                onTheWay--;
            }
        }

        private boolean enters(Tower t, int p) {
            boolean up = t.goal[p] > t.floor[p];
            int flight = up ? t.floor[p] : t.floor[p] - 1;
            int[] used = up ? usedUp : usedDown;
            if (flight < 0 || flight >= FLIGHTS || (closed >> flight & 1) == 1 || used[flight] + takes[p] > t.room) {
                return false;
            }
            used[flight] += takes[p];
            mostUsed[flight] = Math.max(mostUsed[flight], used[flight]);
            return true;
        }

        private void step(Tower t, int p) {
            if (Kind.goesByHalves(t.kind[p]) && t.half[p] == 0) {
                t.half[p] = 1;
                return;
            }
            t.half[p] = 0;
            t.floor[p] += t.goal[p] > t.floor[p] ? 1 : -1;
        }
    }

    /** THE TAPE and its reader; the first fault ends the reading, for all that would be read behind it does nothing. */
    private static final class Text {
        private static final int NO_FAULT = -1;
        private static final int BLANK = 32;

        private final byte[] bytes = new byte[MOST_BYTES];
        private int length;
        private int place;
        private int tokenStart;
        private int fault;

        void add(byte b) {
            if (length < MOST_BYTES) {
                bytes[length] = b;
                length++;
            }
        }

        void useUp() {
            length = 0;
        }

        int readInto(Tower t) {
            t.clear();
            place = 0;
            fault = NO_FAULT;
            for (int i = 0; i < MOST_BYTES && fault == NO_FAULT; i++) {
                skipBlanks();
                if (place >= length) {
                    break;
                }
                readEntry(t);
            }
            return fault;
        }

        private void readEntry(Tower t) {
            takeName();
            if (nameIs("hat")) {
                readHat(t);
            } else if (nameIs("room")) {
                readRoom(t);
            } else {
                readPerson(t, kindNamed());
            }
        }

        private int kindNamed() {
            if (nameIs("clerk")) {
                return CLERK;
            }
            if (nameIs("limper")) {
                return LIMPER;
            }
            if (nameIs("runner")) {
                return RUNNER;
            }
            if (nameIs("chief")) {
                return CHIEF;
            }
            if (nameIs("porter")) {
                return PORTER;
            }
            return nameIs("boy") ? BOY : NONE;
        }

        private void readPerson(Tower t, int kind) {
            if (kind == NONE || t.count >= MOST_PEOPLE) {
                fault = tokenStart;
                return;
            }
            int a = number(0, MOST_A);
            word("from");
            int floor = number(0, TOP_FLOOR);
            word("to");
            int goal = number(0, TOP_FLOOR);
            int start = 0;
            if (!semicolonIsNext()) {
                word("at");
                start = number(0, LAST_START);
            }
            semicolon();
            if (fault == NO_FAULT) {
                t.addPerson(kind, a, floor, goal, start);
            }
        }

        private void readHat(Tower t) {
            if (t.hats >= MOST_HATS) {
                fault = tokenStart;
                return;
            }
            int flight = number(0, FLIGHTS - 1);
            word("at");
            int from = number(0, LAST_START);
            word("for");
            int n = number(1, LONGEST_HAT);
            semicolon();
            if (fault == NO_FAULT) {
                t.addHat(flight, from, n);
            }
        }

        private void readRoom(Tower t) {
            int room = number(1, MOST_ROOM);
            semicolon();
            if (fault == NO_FAULT) {
                t.room = room;
            }
        }

        private void skipBlanks() {
            while (place < length && bytes[place] == BLANK) {
                place++;
            }
        }

        /** The name is empty where something else stands, or the end. */
        private void takeName() {
            skipBlanks();
            tokenStart = place;
            while (place < length && bytes[place] >= 'a' && bytes[place] <= 'z') {
                place++;
            }
        }

        private boolean nameIs(String name) {
            if (place - tokenStart != name.length()) {
                return false;
            }
            for (int i = 0; i < name.length(); i++) {
                if (bytes[tokenStart + i] != name.charAt(i)) {
                    return false;
                }
            }
            return true;
        }

        private void word(String name) {
            if (fault != NO_FAULT) {
                return;
            }
            takeName();
            if (!nameIs(name)) {
                fault = tokenStart;
            }
        }

        private int number(int least, int most) {
            if (fault != NO_FAULT) {
                return 0;
            }
            skipBlanks();
            tokenStart = place;
            int value = 0;
            while (place < length && bytes[place] >= '0' && bytes[place] <= '9') {
                value = value * 10 + bytes[place] - '0';
                place++;
            }
            int digits = place - tokenStart;
            if (digits < 1 || digits > 2 || !within(value, least, most)) {
                fault = tokenStart;
            }
            return value;
        }

        private boolean semicolonIsNext() {
            skipBlanks();
            return place < length && bytes[place] == ';';
        }

        private void semicolon() {
            if (fault != NO_FAULT) {
                return;
            }
            if (semicolonIsNext()) {
                place++;
            } else {
                fault = place;
            }
        }
    }

    /** Every item comes from an int, so an int holds it, of longs too: their lowest 32 bits are all that is asked. */
    private static final class Sheet {
        private int sort = NO_SORT;
        private int length;
        private final int[] items = new int[MOST_ITEMS];

        void renew(int newSort, int newLength) {
            sort = newSort;
            length = newLength;
            for (int i = 0; i < MOST_ITEMS; i++) {
                items[i] = 0;
            }
        }

        int narrowed(int v) {
            if (sort == BYTES) {
                return (byte) v;
            }
            return sort == SHORTS ? (short) v : v;
        }
    }

    /** Of a row its sort and length are held, not its sheet's number: the row stays when the sheet gets another. */
    private static final class Shelf {
        private int what = HOLDS_NOTHING;
        private int number;
        private int sort;
        private int length;

        void holdNothing() {
            what = HOLDS_NOTHING;
        }

        void holdPerson(int person) {
            what = HOLDS_PERSON;
            number = person;
        }

        void holdRowOf(Sheet sheet) {
            what = sheet.sort == NO_SORT ? HOLDS_NOTHING : HOLDS_ROW;
            sort = sheet.sort;
            length = sheet.length;
        }
    }

    /**
     * Plays the bodies of one thing. Every body that overrides another calls it first of all, so the bodies of one
     * act begin from the thing's own kind upwards, and are told here in that order, ahead of what they reckon.
     */
    private static final class Actor {
        private int kind;
        private int n;
        private int a;
        private final int[] bodies = new int[MOST_BODIES];
        private int bodyCount;
        private boolean parted;

        void forget() {
            bodyCount = 0;
            parted = false;
        }

        void play(int newKind, int newNumber, int newA) {
            kind = newKind;
            n = newNumber;
            a = newA;
        }

        int perform(int act, int x) {
            int answer;
            switch (act) {
                case 0: answer = climbs(x); break;
                case 1: answer = yields(x); break;
                case 2: answer = shares(x); break;
                case 3: answer = tells(x); break;
                default: return 0;
            }
            return parted ? PARTED_BY_ZERO : answer;
        }

        /** Behind a parting by 0 no body begins any more. */
        private void begin(int body) {
            if (!parted && bodyCount < MOST_BODIES) {
                bodies[bodyCount] = body;
                bodyCount++;
            }
        }

        private int climbs(int x) {
            switch (kind) {
                case RUNNER:
                    begin(30);
                    begin(10);
                    return (x + n) * 3;
                case CHIEF:
                    begin(40);
                    begin(30);
                    begin(10);
                    return 0 - (x + n) * 3;
                case PORTER:
                    begin(51);
                    begin(10);
                    return x + n - n;
                default:
                    begin(10);
                    return x + n;
            }
        }

        private int yields(int x) {
            switch (kind) {
                case LIMPER:
                case PORTER:
                    begin(20);
                    begin(11);
                    return climbs(x) * 2 - a;
                case CHIEF:
                    begin(41);
                    begin(11);
                    return climbs(x) * 2 + climbs(n);
                default:
                    begin(11);
                    return climbs(x) * 2;
            }
        }

        private int shares(int x) {
            switch (kind) {
                case PORTER:
                    begin(50);
                    begin(12);
                    return partOf(x + 2) ^ 1;
                case BOY:
                    begin(61);
                    begin(12);
                    return partOf(x) + climbs(a);
                default:
                    begin(12);
                    return partOf(x);
            }
        }

        private int tells(int x) {
            switch (kind) {
                case RUNNER:
                case CHIEF:
                    begin(31);
                    begin(13);
                    return (yields(x) ^ a) + shares(n);
                case BOY:
                    begin(60);
                    begin(13);
                    return (yields(x) ^ a) * 2;
                default:
                    begin(13);
                    return yields(x) ^ a;
            }
        }

        private int partOf(int x) {
            if (a == n) {
                parted = true;
                return 0;
            }
            return x / (a - n);
        }
    }
}

import java.util.Arrays;

/**
 * A web of trust: persons vouch for each other, and trust flows in whole parts from trusted seeds
 * along the vouches, limited by levels; each person who keeps a part is let in.
 *
 * Every row is made with the object and used again: a call makes no object. Nothing that is
 * computed is kept from call to call, so no change of the circle can leave an old answer behind.
 */
public final class VouchFlow {
    public static final int NONE = -1, UNKNOWN = -101, OUTSIDE = -102, STATE = -103, FULL = -104;

    private static final int MOST_PERSONS = 9;
    private static final int MOST_BOUNDS = 5;
    private static final int MOST_SEEDS = 5;
    private static final int MOST_VOUCHES = 5;
    private static final int MOST_STEPS = 4;
    private static final int PAGE_SIZE = 110;
    private static final int FIRST_CODE = 32;
    private static final int LAST_CODE = 126;

    private static final int PLAIN = 0;
    private static final int SEED = 1;
    private static final int FALSE = 2;

    private static final long FIRST_HASH = 1553;
    private static final int HASH_FACTOR = 31;

    private final int[] page = new int[PAGE_SIZE];
    private int pageLength;
    private final Circle present = new Circle();
    private final Reader reader = new Reader();
    private final Writer writer = new Writer();
    private final Flow flow = new Flow();
    private final Web web = flow.web;
    private final Walk walk = new Walk();
    private int circlesRead;
    private int vouchesAdded;
    private int vouchesRemoved;

    /** Creates an object without a circle, with an empty page. */
    public VouchFlow() {
    }

    // ---- texts

    public int letter(int code) {
        if (code < FIRST_CODE || code > LAST_CODE) {
            return OUTSIDE;
        }
        if (pageLength >= PAGE_SIZE) {
            return FULL;
        }
        page[pageLength] = code;
        pageLength++;
        return pageLength;
    }

    public int blank() {
        int had = pageLength;
        pageLength = 0;
        return had;
    }

    public int fault() {
        reader.begin();
        for (int i = 0; i < pageLength; i++) {
            if (!reader.take(page[i])) {
                return i;
            }
        }
        return pageLength;
    }

    public int circle() {
        if (fault() < pageLength || !reader.isComplete()) {
            return STATE;
        }
        present.become(reader.draft);
        pageLength = 0;
        circlesRead++;
        return present.persons;
    }

    public int ink(int place) {
        if (!present.exists()) {
            return STATE;
        }
        if (place < 0) {
            return UNKNOWN;
        }
        writer.write(present);
        return place < writer.length ? writer.text[place] : NONE;
    }

    // ---- persons and vouches

    public int kind(int person, int kind) {
        if (!present.has(person)) {
            return UNKNOWN;
        }
        if (!isKind(kind)) {
            return OUTSIDE;
        }
        int before = present.kinds[person];
        if (kind == SEED && before != SEED && Integer.bitCount(present.ofKind(SEED)) >= MOST_SEEDS) {
            return FULL;
        }
        present.kinds[person] = kind;
        return before;
    }

    public int as(int person, int kind) {
        if (!present.has(person)) {
            return UNKNOWN;
        }
        if (!isKind(kind)) {
            return OUTSIDE;
        }
        int own = present.kinds[person];
        return kind == PLAIN || kind == own ? own : NONE;
    }

    public int vouch(int by, int whom) {
        if (!present.hasPair(by, whom)) {
            return UNKNOWN;
        }
        if (present.hasVouch(by, whom)) {
            return STATE;
        }
        int before = Integer.bitCount(present.vouched[by]);
        if (before >= MOST_VOUCHES) {
            return FULL;
        }
        present.vouched[by] |= 1 << whom;
        vouchesAdded++;
        return before + 1;
    }

    public int recall(int by, int whom) {
        if (!present.hasPair(by, whom)) {
            return UNKNOWN;
        }
        if (!present.hasVouch(by, whom)) {
            return STATE;
        }
        present.vouched[by] &= ~(1 << whom);
        vouchesRemoved++;
        return Integer.bitCount(present.vouched[by]);
    }

    public int bound(int place, int v) {
        if (place < 0 || place >= present.boundCount) {
            return UNKNOWN;
        }
        if (v < 0 || v > 9) {
            return OUTSIDE;
        }
        int before = present.bounds[place];
        present.bounds[place] = v;
        return before;
    }

    public int about(int what) {
        if (what < 0 || what > 7) {
            return OUTSIDE;
        }
        if (!present.exists()) {
            return STATE;
        }
        switch (what) {
            case 0: return present.persons;
            case 1: return Integer.bitCount(present.ofKind(SEED));
            case 2: return Integer.bitCount(present.ofKind(FALSE));
            case 3: return present.vouchCount();
            case 4: return present.boundCount;
            default: break;
        }
        prepareWeb();
        switch (what) {
            case 5: return web.personsWithLevel();
            case 6: return web.greatestLevel();
            default: return web.limitsOf(present.everyone());
        }
    }

    public int person(int person, int what) {
        if (!present.has(person)) {
            return UNKNOWN;
        }
        if (what < 0 || what > 7) {
            return OUTSIDE;
        }
        switch (what) {
            case 0: return present.kinds[person];
            case 3: return Integer.bitCount(present.vouched[person]);
            case 4: return Integer.bitCount(present.vouchersOf(person));
            case 7: return waysTo(person);
            default: break;
        }
        prepareWeb();
        switch (what) {
            case 1: return web.levels[person];
            case 2: return web.limits[person];
            case 5: return bit(admitted(present.everyone()), person);
            default: return bit(takenIn(), person);
        }
    }

    public int vouches(int by, int whom) {
        if (!present.hasPair(by, whom)) {
            return UNKNOWN;
        }
        return bit(present.vouched[by], whom);
    }

    public int generous() {
        if (!present.exists()) {
            return STATE;
        }
        int best = NONE;
        int bestGiven = 0;
        int bestGot = 0;
        for (int p = 0; p < present.persons; p++) {
            int given = Integer.bitCount(present.vouched[p]);
            int got = Integer.bitCount(present.vouchersOf(p));
            // the quotients are compared by products, which keeps them exact
            if (got > 0 && (best == NONE || given * bestGot > bestGiven * got)) {
                best = p;
                bestGiven = given;
                bestGot = got;
            }
        }
        return best;
    }

    // ---- trust

    public int trust(int what) {
        if (what < 0 || what > 4) {
            return OUTSIDE;
        }
        if (!present.exists()) {
            return STATE;
        }
        int falses = present.ofKind(FALSE);
        if (what == 4) {
            web.copy(present);
            web.silence(falses);
            web.settle(present);
        } else {
            prepareWeb();
        }
        switch (what) {
            case 1: return Integer.bitCount(admitted(present.everyone()) & falses);
            case 2: return Integer.bitCount(admitted(falses));
            case 3: return web.limitsOf(takenIn());
            default: return Integer.bitCount(admitted(present.everyone()));
        }
    }

    public int together(int persons) {
        if (!present.exists()) {
            return STATE;
        }
        if ((persons & ~present.everyone()) != 0) {
            return UNKNOWN;
        }
        prepareWeb();
        return admitted(persons) == persons ? 1 : 0;
    }

    public int cut(int what) {
        if (what < 0 || what > 2) {
            return OUTSIDE;
        }
        if (!present.exists()) {
            return STATE;
        }
        int falses = present.ofKind(FALSE);
        prepareWeb();
        admitted(falses);
        // Where trust could still go when no more false persons can be let in is the smallest of
        // all cuts of the smallest cost.
        int reached = flow.reached();
        int wall = (web.seeds | web.vouchedBy(reached)) & ~reached;
        switch (what) {
            case 0: return web.limitsOf(wall) + Integer.bitCount(reached & falses);
            case 1: return wall;
            default: return reached;
        }
    }

    public int apart(int person) {
        if (!present.has(person)) {
            return UNKNOWN;
        }
        if (present.kinds[person] == SEED) {
            return NONE;
        }
        // By Menger's theorem the fewest persons who part are as many as the disjoint ways.
        int fewest = waysTo(person);
        int others = present.everyone() & ~(1 << person);
        for (int removed = 0; removed <= others; removed++) {
            if ((removed & ~others) == 0 && Integer.bitCount(removed) == fewest
                    && bit(web.reachedWithout(removed), person) == 0) {
                return removed;
            }
        }
        return others;
    }

    // ---- without a vouch

    public int without(int by, int whom, int what) {
        if (!present.hasPair(by, whom)) {
            return UNKNOWN;
        }
        if (!present.hasVouch(by, whom)) {
            return STATE;
        }
        if (what < 0 || what > 2) {
            return OUTSIDE;
        }
        prepareWebWithout(by, whom);
        switch (what) {
            case 0: return Integer.bitCount(admitted(present.everyone()));
            case 1: return Integer.bitCount(admitted(present.everyone()) & present.ofKind(FALSE));
            default: return web.levels[whom];
        }
    }

    public int dearest() {
        if (!present.exists()) {
            return STATE;
        }
        int best = NONE;
        int fewest = MOST_PERSONS + 1;
        for (int by = 0; by < present.persons; by++) {
            for (int whom = 0; whom < present.persons; whom++) {
                if (!present.hasVouch(by, whom)) {
                    continue;
                }
                prepareWebWithout(by, whom);
                int left = Integer.bitCount(admitted(present.everyone()));
                if (left < fewest) {
                    fewest = left;
                    best = 10 * by + whom;
                }
            }
        }
        return best;
    }

    // ---- walks

    public int chance(int person, int k, int what) {
        if (!present.has(person)) {
            return UNKNOWN;
        }
        if (!isStepCount(k) || what < 0 || what > 1) {
            return OUTSIDE;
        }
        if (present.ofKind(SEED) == 0) {
            return STATE;
        }
        walk.go(present, k);
        return what == 0 ? walk.numerator(person) : walk.denominator(person);
    }

    public int thousandths(int person, int k) {
        if (!present.has(person)) {
            return UNKNOWN;
        }
        if (!isStepCount(k)) {
            return OUTSIDE;
        }
        if (present.ofKind(SEED) == 0) {
            return STATE;
        }
        walk.go(present, k);
        return walk.thousandPart(person);
    }

    public int order(int k, int place) {
        if (!isStepCount(k)) {
            return OUTSIDE;
        }
        if (present.ofKind(SEED) == 0) {
            return STATE;
        }
        if (!present.has(place)) {
            return UNKNOWN;
        }
        walk.go(present, k);
        return walk.personAt(place);
    }

    // ---- counts

    public int count(int what) {
        switch (what) {
            case 0: return present.persons;
            case 1: return pageLength;
            case 2: return circlesRead;
            case 3: return vouchesAdded;
            case 4: return vouchesRemoved;
            default: return OUTSIDE;
        }
    }

    public long digest() {
        long hash = FIRST_HASH;
        if (present.exists()) {
            hash = addInk(hash);
            hash = addPersons(hash);
            hash = addTrust(hash);
        }
        if (present.ofKind(SEED) != 0) {
            hash = addWalks(hash);
        }
        for (int i = 0; i < pageLength; i++) {
            hash = add(hash, page[i]);
        }
        for (int what = 0; what <= 4; what++) {
            hash = add(hash, count(what));
        }
        return hash;
    }

    private static long add(long hash, int result) {
        return HASH_FACTOR * hash + result;
    }

    private long addInk(long before) {
        long hash = before;
        writer.write(present);
        for (int i = 0; i < writer.length; i++) {
            hash = add(hash, writer.text[i]);
        }
        return hash;
    }

    private long addPersons(long before) {
        long hash = before;
        for (int what = 0; what <= 7; what++) {
            hash = add(hash, about(what));
        }
        for (int p = 0; p < present.persons; p++) {
            for (int what = 0; what <= 7; what++) {
                hash = add(hash, person(p, what));
            }
            hash = add(hash, apart(p));
        }
        return add(hash, generous());
    }

    private long addTrust(long before) {
        long hash = before;
        for (int what = 0; what <= 4; what++) {
            hash = add(hash, trust(what));
        }
        for (int what = 0; what <= 2; what++) {
            hash = add(hash, cut(what));
        }
        int dear = dearest();
        hash = add(hash, dear);
        if (dear != NONE) {
            for (int what = 0; what <= 2; what++) {
                hash = add(hash, without(dear / 10, dear % 10, what));
            }
        }
        return hash;
    }

    private long addWalks(long before) {
        long hash = before;
        for (int k = 0; k <= MOST_STEPS; k++) {
            walk.go(present, k);
            for (int p = 0; p < present.persons; p++) {
                hash = add(hash, walk.numerator(p));
                hash = add(hash, walk.denominator(p));
                hash = add(hash, walk.thousandPart(p));
            }
            for (int place = 0; place < present.persons; place++) {
                hash = add(hash, walk.personAt(place));
            }
        }
        return hash;
    }

    // ---- shared by the calls above

    private static boolean isKind(int kind) {
        return kind >= PLAIN && kind <= FALSE;
    }

    private static boolean isStepCount(int k) {
        return k >= 0 && k <= MOST_STEPS;
    }

    private static int bit(int set, int person) {
        return set >> person & 1;
    }

    private void prepareWeb() {
        web.copy(present);
        web.settle(present);
    }

    private void prepareWebWithout(int by, int whom) {
        web.copy(present);
        web.leaveOut(by, whom);
        web.settle(present);
    }

    /** The candidates who are in, one after another by increasing numbers, in the web as prepared. */
    private int admitted(int candidates) {
        flow.begin();
        int in = 0;
        for (int p = 0; p < present.persons; p++) {
            if (bit(candidates, p) == 1 && flow.sendTo(p)) {
                in |= 1 << p;
            }
        }
        return in;
    }

    private int takenIn() {
        int falses = present.ofKind(FALSE);
        int taken = 0;
        for (int p = 0; p < present.persons; p++) {
            if (present.kinds[p] != FALSE && web.limits[p] > 0 && (present.vouched[p] & falses) != 0) {
                taken |= 1 << p;
            }
        }
        return taken;
    }

    private int waysTo(int person) {
        if (present.kinds[person] == SEED) {
            return NONE;
        }
        web.copy(present);
        web.allowOnePathThroughAllBut(person);
        flow.begin();
        int ways = 0;
        for (int i = 0; i < MOST_PERSONS && flow.sendTo(person); i++) {
            ways++;
        }
        return ways;
    }

    /** The persons, their vouches and the bounds; there is no circle while there are no persons. */
    private static final class Circle {
        int persons;
        int boundCount;
        final int[] bounds = new int[MOST_BOUNDS];
        final int[] kinds = new int[MOST_PERSONS];
        final int[] vouched = new int[MOST_PERSONS];

        void clear() {
            persons = 0;
            boundCount = 0;
            Arrays.fill(bounds, 0);
            Arrays.fill(kinds, PLAIN);
            Arrays.fill(vouched, 0);
        }

        void become(Circle other) {
            persons = other.persons;
            boundCount = other.boundCount;
            System.arraycopy(other.bounds, 0, bounds, 0, MOST_BOUNDS);
            System.arraycopy(other.kinds, 0, kinds, 0, MOST_PERSONS);
            System.arraycopy(other.vouched, 0, vouched, 0, MOST_PERSONS);
        }

        boolean exists() {
            return persons > 0;
        }

        int everyone() {
            return (1 << persons) - 1;
        }

        boolean has(int person) {
            return person >= 0 && person < persons;
        }

        boolean hasPair(int by, int whom) {
            return has(by) && has(whom) && by != whom;
        }

        boolean hasVouch(int by, int whom) {
            return bit(vouched[by], whom) == 1;
        }

        int ofKind(int kind) {
            int set = 0;
            for (int p = 0; p < persons; p++) {
                if (kinds[p] == kind) {
                    set |= 1 << p;
                }
            }
            return set;
        }

        int vouchersOf(int whom) {
            int set = 0;
            for (int by = 0; by < persons; by++) {
                if (hasVouch(by, whom)) {
                    set |= 1 << by;
                }
            }
            return set;
        }

        int vouchCount() {
            int sum = 0;
            for (int by = 0; by < persons; by++) {
                sum += Integer.bitCount(vouched[by]);
            }
            return sum;
        }
    }

    /** Reads a text character by character, and refuses the first one that no circle can have there. */
    private static final class Reader {
        private static final int AT_COUNT = 0;
        private static final int AFTER_COUNT = 1;
        private static final int AT_BOUNDS = 2;
        private static final int AT_PERSON = 3;
        private static final int AT_VOUCH = 4;
        private static final int AT_WHOM = 5;

        final Circle draft = new Circle();
        private int state;
        private int current;
        private int lastWhom;

        void begin() {
            draft.clear();
            state = AT_COUNT;
            current = 0;
            lastWhom = NONE;
        }

        boolean isComplete() {
            return (state == AT_PERSON || state == AT_VOUCH) && current == draft.persons - 1;
        }

        boolean take(int code) {
            switch (state) {
                case AT_COUNT: return takeCount(code - '0');
                case AFTER_COUNT: return code == ':' && moveTo(AT_BOUNDS);
                case AT_BOUNDS: return takeBoundsEnd(code) || takeBound(code - '0');
                case AT_PERSON: return takeKind(code) || takeInPerson(code);
                case AT_VOUCH: return takeInPerson(code);
                default: return takeWhom(code - '0');
            }
        }

        private boolean moveTo(int next) {
            state = next;
            return true;
        }

        private boolean takeCount(int digit) {
            if (digit < 1 || digit > MOST_PERSONS) {
                return false;
            }
            draft.persons = digit;
            return moveTo(AFTER_COUNT);
        }

        private boolean takeBound(int digit) {
            if (digit < 0 || digit > 9 || draft.boundCount >= MOST_BOUNDS) {
                return false;
            }
            draft.bounds[draft.boundCount] = digit;
            draft.boundCount++;
            return true;
        }

        private boolean takeBoundsEnd(int code) {
            return code == ':' && draft.boundCount > 0 && moveTo(AT_PERSON);
        }

        private boolean takeKind(int code) {
            boolean seed = code == '*' && Integer.bitCount(draft.ofKind(SEED)) < MOST_SEEDS;
            if (!seed && code != '!') {
                return false;
            }
            draft.kinds[current] = seed ? SEED : FALSE;
            return moveTo(AT_VOUCH);
        }

        private boolean takeInPerson(int code) {
            if (code == '>') {
                return canVouchOn() && moveTo(AT_WHOM);
            }
            if (code != ';' || current + 1 >= draft.persons) {
                return false;
            }
            current++;
            lastWhom = NONE;
            return moveTo(AT_PERSON);
        }

        /** A vouch may only begin where somebody is left who can follow in increasing order. */
        private boolean canVouchOn() {
            int next = lastWhom + 1 == current ? lastWhom + 2 : lastWhom + 1;
            return next < draft.persons && Integer.bitCount(draft.vouched[current]) < MOST_VOUCHES;
        }

        private boolean takeWhom(int digit) {
            if (digit <= lastWhom || digit >= draft.persons || digit == current) {
                return false;
            }
            draft.vouched[current] |= 1 << digit;
            lastWhom = digit;
            return moveTo(AT_VOUCH);
        }
    }

    /** Writes a circle as a text. */
    private static final class Writer {
        // A circle that kind() and vouch() have changed can have a longer text than a page holds:
        // count, colon, bounds, colon, marks, separators, and two characters for each vouch.
        private static final int LONGEST = 3 + MOST_BOUNDS + MOST_PERSONS + (MOST_PERSONS - 1)
                + 2 * MOST_PERSONS * MOST_VOUCHES;

        final int[] text = new int[LONGEST];
        int length;

        void write(Circle circle) {
            length = 0;
            put('0' + circle.persons);
            put(':');
            for (int i = 0; i < circle.boundCount; i++) {
                put('0' + circle.bounds[i]);
            }
            put(':');
            for (int p = 0; p < circle.persons; p++) {
                if (p > 0) {
                    put(';');
                }
                writePerson(circle, p);
            }
        }

        private void writePerson(Circle circle, int person) {
            if (circle.kinds[person] == SEED) {
                put('*');
            }
            if (circle.kinds[person] == FALSE) {
                put('!');
            }
            for (int whom = 0; whom < circle.persons; whom++) {
                if (circle.hasVouch(person, whom)) {
                    put('>');
                    put('0' + whom);
                }
            }
        }

        private void put(int code) {
            if (length < LONGEST) {
                text[length] = code;
                length++;
            }
        }
    }

    /** Who vouches for whom, perhaps with vouches left out, and the levels and limits that follow. */
    private static final class Web {
        int persons;
        int seeds;
        final int[] vouched = new int[MOST_PERSONS];
        final int[] levels = new int[MOST_PERSONS];
        final int[] limits = new int[MOST_PERSONS];

        void copy(Circle circle) {
            persons = circle.persons;
            seeds = circle.ofKind(SEED);
            System.arraycopy(circle.vouched, 0, vouched, 0, MOST_PERSONS);
        }

        void leaveOut(int by, int whom) {
            vouched[by] &= ~(1 << whom);
        }

        void silence(int set) {
            for (int p = 0; p < persons; p++) {
                if (bit(set, p) == 1) {
                    vouched[p] = 0;
                }
            }
        }

        void settle(Circle circle) {
            Arrays.fill(levels, NONE);
            Arrays.fill(limits, 0);
            int known = 0;
            int front = seeds;
            for (int level = 0; level < persons && front != 0; level++) {
                int limit = level < circle.boundCount ? circle.bounds[level] : 0;
                for (int p = 0; p < persons; p++) {
                    if (bit(front, p) == 1) {
                        levels[p] = level;
                        limits[p] = limit;
                    }
                }
                known |= front;
                front = vouchedBy(front) & ~known;
            }
        }

        /** Limits under which a flow to a person counts paths that share no other person. */
        void allowOnePathThroughAllBut(int person) {
            Arrays.fill(limits, 1);
            limits[person] = MOST_PERSONS;
        }

        int vouchedBy(int set) {
            int whom = 0;
            for (int p = 0; p < persons; p++) {
                if (bit(set, p) == 1) {
                    whom |= vouched[p];
                }
            }
            return whom;
        }

        int reachedWithout(int removed) {
            int known = seeds & ~removed;
            int front = known;
            for (int round = 0; round < persons && front != 0; round++) {
                front = vouchedBy(front) & ~removed & ~known;
                known |= front;
            }
            return known;
        }

        int personsWithLevel() {
            int sum = 0;
            for (int p = 0; p < persons; p++) {
                if (levels[p] != NONE) {
                    sum++;
                }
            }
            return sum;
        }

        int greatestLevel() {
            int greatest = NONE;
            for (int p = 0; p < persons; p++) {
                greatest = Math.max(greatest, levels[p]);
            }
            return greatest;
        }

        int limitsOf(int set) {
            int sum = 0;
            for (int p = 0; p < persons; p++) {
                if (bit(set, p) == 1) {
                    sum += limits[p];
                }
            }
            return sum;
        }
    }

    /**
     * Parts of trust that flow through a web. Each person is two places, where parts come and from
     * where they go on or are kept, so that the limit stands between the two.
     */
    private static final class Flow {
        private static final int PLACES = 2 * MOST_PERSONS;
        private static final int SOURCE = -1;
        private static final int NOWHERE = -2;

        final Web web = new Web();
        private final int[] coming = new int[MOST_PERSONS];
        private final int[] along = new int[MOST_PERSONS * MOST_PERSONS];
        private final int[] before = new int[PLACES];
        private final int[] found = new int[PLACES];
        private int foundCount;
        private int seen;

        void begin() {
            Arrays.fill(coming, 0);
            Arrays.fill(along, 0);
        }

        /** Brings one more part to a person, moving others' parts to other ways where it must. */
        boolean sendTo(int person) {
            int place = MOST_PERSONS + person;
            search(place);
            if (bit(seen, place) == 0) {
                return false;
            }
            for (int i = 0; i < PLACES && before[place] != SOURCE; i++) {
                move(before[place], place);
                place = before[place];
            }
            return true;
        }

        /** The persons from whom one more part could go on. */
        int reached() {
            search(NOWHERE);
            return seen >> MOST_PERSONS;
        }

        private void search(int goal) {
            seen = 0;
            foundCount = 0;
            note(web.seeds, SOURCE);
            for (int i = 0; i < foundCount && i < PLACES; i++) {
                int place = found[i];
                if (place == goal) {
                    return;
                }
                note(place < MOST_PERSONS ? nextOfComing(place) : nextOfGoing(place - MOST_PERSONS), place);
            }
        }

        private void note(int places, int from) {
            int fresh = places & ~seen;
            for (int place = 0; place < PLACES && fresh >> place != 0; place++) {
                if ((fresh >> place & 1) == 1 && foundCount < PLACES) {
                    before[place] = from;
                    found[foundCount] = place;
                    foundCount++;
                }
            }
            seen |= fresh;
        }

        private int nextOfComing(int person) {
            int next = coming[person] < web.limits[person] ? 1 << MOST_PERSONS + person : 0;
            for (int by = 0; by < web.persons && coming[person] > 0; by++) {
                if (along[by * MOST_PERSONS + person] > 0) {
                    next |= 1 << MOST_PERSONS + by;
                }
            }
            return next;
        }

        private int nextOfGoing(int person) {
            return web.vouched[person] | (coming[person] > 0 ? 1 << person : 0);
        }

        private void move(int from, int to) {
            if (from < MOST_PERSONS) {
                moveFromComing(from, to - MOST_PERSONS);
            } else {
                moveFromGoing(from - MOST_PERSONS, to);
            }
        }

        private void moveFromComing(int person, int goer) {
            if (person == goer) {
                coming[person]++;
            } else {
                along[goer * MOST_PERSONS + person]--;
            }
        }

        private void moveFromGoing(int person, int comer) {
            if (person == comer) {
                coming[person]--;
            } else {
                along[person * MOST_PERSONS + comer]++;
            }
        }
    }

    /** A random walk; the chances have one common denominator, so that they stay whole numbers. */
    private static final class Walk {
        // The smallest number that all counts of seeds and of vouches, 1 to 5, divide: one factor
        // of it for the beginning and for each step keeps every share whole, and below 60^5.
        private static final int FACTOR = 60;
        private static final int MOST_ROUNDS = 100;

        private int persons;
        private long whole;
        private final long[] parts = new long[MOST_PERSONS];
        private final long[] next = new long[MOST_PERSONS];

        void go(Circle circle, int steps) {
            int seeds = circle.ofKind(SEED);
            persons = circle.persons;
            whole = FACTOR;
            Arrays.fill(next, 0);
            share(FACTOR, seeds);
            System.arraycopy(next, 0, parts, 0, MOST_PERSONS);
            for (int k = 0; k < steps; k++) {
                step(circle, seeds);
            }
        }

        private void step(Circle circle, int seeds) {
            Arrays.fill(next, 0);
            for (int p = 0; p < persons; p++) {
                share(FACTOR * parts[p], circle.vouched[p] == 0 ? seeds : circle.vouched[p]);
            }
            System.arraycopy(next, 0, parts, 0, MOST_PERSONS);
            whole *= FACTOR;
        }

        private void share(long sum, int set) {
            int sharers = Integer.bitCount(set);
            if (sum == 0 || sharers == 0) {
                return;
            }
            long each = sum / sharers;
            for (int p = 0; p < persons; p++) {
                if (bit(set, p) == 1) {
                    next[p] += each;
                }
            }
        }

        int numerator(int person) {
            return (int) (parts[person] / commonDivisor(person));
        }

        int denominator(int person) {
            return (int) (whole / commonDivisor(person));
        }

        int thousandPart(int person) {
            return whole == 0 ? 0 : (int) (1000 * parts[person] / whole);
        }

        /** The person before whom so many others come. */
        int personAt(int place) {
            for (int p = 0; p < persons; p++) {
                if (comingBefore(p) == place) {
                    return p;
                }
            }
            return UNKNOWN;
        }

        private int comingBefore(int person) {
            int sum = 0;
            for (int p = 0; p < persons; p++) {
                if (parts[p] > parts[person] || parts[p] == parts[person] && p < person) {
                    sum++;
                }
            }
            return sum;
        }

        private long commonDivisor(int person) {
            long a = whole;
            long b = parts[person];
            for (int i = 0; i < MOST_ROUNDS && b != 0; i++) {
                long rest = a % b;
                a = b;
                b = rest;
            }
            return Math.max(a, 1);
        }
    }
}

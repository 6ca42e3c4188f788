/**
 * A country in which the number of promises never changes.
 * The document's numbered promises say what each public call does.
 */
public final class PromisesKept {
    public static final int NONE = -1, BAD = -2, NOT = -3, FULL = -4;

    private static final int MOST_BYTES = 80;
    private static final int MOST_WANTS = 10;
    private static final int PERSONS = 6;
    private static final int LAST_DAY = 99;
    private static final int LAWS = 4;
    private static final int MOST_SLOTS = 9;
    private static final int MOST_NOTES = 8;
    private static final int SHEETS = 4;
    private static final int FORMS = 3;
    private static final int MOST_ITEMS = 48;

    private static final int[] DAYS_OF_DIGEST = {0, 10, 30};

    private static final int KEPT = 1, BROKEN = 2, FORGIVEN = 3, LAPSED = 4;

    private static final int NULL = 1, INDEX = 2, CAST = 3, STORE = 4, SIZE = 5;

    /** Where any number may be an answer, refusals lie below all of them. */
    private static final int BAD_AMONG_NUMBERS = -10000 + BAD;
    private static final int LEAST_INT = 1 << 31;

    /** More than ten wants of worth 9 come to. */
    private static final int OVER_ALL_WORTH = 100;

    private final Wants wants = new Wants();
    private final Country country = new Country();
    private final Notes sights = new Notes();
    private final Course now = new Course(wants, country);
    private final Course supposed = new Course(wants, country);
    private final Course compared = new Course(wants, country);
    private final Sheet[] sheets = new Sheet[SHEETS];
    private boolean stale = true;
    private int finding = 0;

    public PromisesKept() {
        for (int s = 0; s < sheets.length; s++) {
            sheets[s] = new Sheet();
        }
    }

    // ---- wants, law

    public int type(int b) {
        if (!within(b, 0, 255)) {
            return BAD;
        }
        if (wants.length >= MOST_BYTES) {
            return FULL;
        }
        stale = true;
        wants.append(b);
        return wants.length;
    }

    public int wipe() {
        int had = wants.length;
        stale = true;
        wants.clear();
        return had;
    }

    public int fault() {
        return wants.faultAt;
    }

    public int want(int want, int what) {
        if (!isWant(want)) {
            return BAD;
        }
        switch (what) {
            case 0: return wants.who[want];
            case 1: return wants.to[want];
            case 2: return wants.asked[want];
            case 3: return wants.due[want];
            case 4: return wants.worth[want];
            default: return BAD;
        }
    }

    public int set(int what, int k, int v) {
        if (!country.allows(what, k, v)) {
            return BAD;
        }
        stale = true;
        return country.exchange(what, k, v);
    }

    public int after(int want, int other, int v) {
        if (!isNumber(want) || !isNumber(other) || !within(v, 0, 1)) {
            return BAD;
        }
        stale = true;
        return country.exchangeAfter(want, other, v);
    }

    public int read(int s) {
        Sheet sheet = sheetAt(s);
        if (sheet == null) {
            return BAD;
        }
        if (sheet.lost) {
            return found(NULL);
        }
        stale = true;
        int most = Math.min(PERSONS, sheet.size);
        int person = 0;
        while (person < most && country.allows(Country.MEANS, person, sheet.item(person))) {
            country.exchange(Country.MEANS, person, sheet.item(person));
            person++;
        }
        return person;
    }

    public int forgive(int day, int want) {
        if (!isDay(day) || !isNumber(want)) {
            return BAD;
        }
        if (country.forgivings.isFull()) {
            return FULL;
        }
        stale = true;
        return country.forgivings.add(day, want, 1);
    }

    public int undo() {
        if (country.forgivings.size == 0) {
            return NOT;
        }
        stale = true;
        return country.forgivings.dropLast();
    }

    // ---- days

    public int held(int day) {
        return isDay(day) ? behind(day).heldBits : BAD;
    }

    public int waiting(int day) {
        return isDay(day) ? behind(day).waitingBits : BAD;
    }

    public int trust(int person, int day) {
        return isPerson(person) && isDay(day) ? behind(day).trustIn(person) : BAD_AMONG_NUMBERS;
    }

    public int means(int person, int day) {
        return isPerson(person) && isDay(day) ? behind(day).meansOf(person) : BAD;
    }

    public int made(int want, int what) {
        if (!isWant(want) || !within(what, 0, 2)) {
            return BAD;
        }
        return behind(LAST_DAY).fate(want, what);
    }

    public int without(int forgiving, int want, int what) {
        if (!within(forgiving, 0, country.forgivings.size - 1) || !isWant(want) || !within(what, 0, 2)) {
            return BAD;
        }
        supposed.begin(country.law, country.slots, forgiving);
        supposed.passTo(LAST_DAY);
        return supposed.fate(want, what);
    }

    public int gain(int law) {
        if (!isLaw(law)) {
            return BAD_AMONG_NUMBERS;
        }
        supposed.begin(law, country.slots, NONE);
        supposed.passTo(LAST_DAY);
        return supposed.worthThatEnded(KEPT) - supposed.worthThatEnded(BROKEN);
    }

    public int best() {
        int best = 0;
        int most = gain(0);
        for (int law = 1; law < LAWS; law++) {
            int gained = gain(law);
            if (gained > most) {
                best = law;
                most = gained;
            }
        }
        return best;
    }

    // ---- slots, rings

    public int room(int day, int k, int most, int what) {
        if (!isDay(day) || !within(k, 1, MOST_SLOTS) || !within(most, 0, 99) || !within(what, 0, 1)) {
            return BAD;
        }
        int set = cheapestToForgive(behind(day).heldBits, k, most);
        return set == NONE || what == 1 ? set : wants.worthOf(set);
    }

    public int price(int day) {
        return isDay(day) ? wants.greatestWorth(behind(day).waitingBits) : BAD;
    }

    public int hoarder() {
        Course end = behind(LAST_DAY);
        int hoarder = NONE;
        int most = 0;
        for (int person = 0; person < PERSONS; person++) {
            int days = end.daysHeldBy(person);
            if (days > most) {
                hoarder = person;
                most = days;
            }
        }
        return hoarder;
    }

    public int rings() {
        return country.ringsAmong(wants.all());
    }

    public int freed(int what) {
        if (!within(what, 0, 1)) {
            return BAD;
        }
        int set = country.fewestThatFree(wants.all());
        return what == 1 ? set : Integer.bitCount(set);
    }

    public int depth(int want) {
        return isWant(want) ? country.longestRow(want, wants.all()) : BAD;
    }

    // ---- seen, owed

    public int seen(int day, int want, int is) {
        if (!isDay(day) || !isNumber(want) || !within(is, 0, 1)) {
            return BAD;
        }
        return sights.isFull() ? FULL : sights.add(day, want, is);
    }

    public int forget() {
        return sights.clear();
    }

    public int fits(int what) {
        if (!within(what, 0, 1)) {
            return BAD;
        }
        int bits = 0;
        int many = what == 0 ? LAWS : MOST_SLOTS;
        for (int n = 0; n < many; n++) {
            int law = what == 0 ? n : country.law;
            int slots = what == 0 ? country.slots : n + 1;
            bits |= fitsAllSights(law, slots) ? 1 << n : 0;
        }
        return bits;
    }

    public int unlike(int a, int b) {
        if (!isLaw(a) || !isLaw(b)) {
            return BAD;
        }
        supposed.begin(a, country.slots, NONE);
        compared.begin(b, country.slots, NONE);
        for (int day = 0; day <= LAST_DAY; day++) {
            supposed.passTo(day);
            compared.passTo(day);
            if (supposed.heldBits != compared.heldBits) {
                return day;
            }
        }
        return NONE;
    }

    public int owed(int a, int b, int day) {
        if (!isPerson(a) || !isPerson(b) || a == b || !isDay(day)) {
            return BAD_AMONG_NUMBERS;
        }
        return wants.owedOf(behind(day).heldBits, a, b);
    }

    public int cleared(int day) {
        if (!isDay(day)) {
            return BAD;
        }
        int bits = behind(day).heldBits;
        int sum = 0;
        for (int a = 0; a < PERSONS; a++) {
            for (int b = 0; b < a; b++) {
                sum += Math.abs(wants.owedOf(bits, a, b));
            }
        }
        return sum;
    }

    // ---- sheets

    public int sheet(int s, int form, int n) {
        Sheet sheet = sheetAt(s);
        if (sheet == null || !isForm(form) || n > MOST_ITEMS) {
            return BAD;
        }
        if (n < 0) {
            return found(SIZE);
        }
        sheet.renew(form, n);
        return n;
    }

    public int lose(int s) {
        Sheet sheet = sheetAt(s);
        if (sheet == null) {
            return BAD;
        }
        return sheet.lost ? found(NULL) : sheet.drop();
    }

    public int put(int s, int form, int i, int v) {
        Sheet sheet = sheetAt(s);
        if (sheet == null || !isForm(form)) {
            return BAD;
        }
        int wrong = sheet.findingAt(form, i);
        if (wrong != 0) {
            return found(wrong);
        }
        sheet.change(i, v);
        return 1;
    }

    public int get(int s, int form, int i) {
        Sheet sheet = sheetAt(s);
        if (sheet == null || !isForm(form)) {
            return LEAST_INT;
        }
        int wrong = sheet.findingAt(form, i);
        if (wrong != 0) {
            finding = wrong;
            return LEAST_INT;
        }
        return sheet.item(i);
    }

    public int copy(int s, int i, int t, int j, int n) {
        Sheet from = sheetAt(s);
        Sheet onto = sheetAt(t);
        if (from == null || onto == null) {
            return BAD;
        }
        if (from.lost || onto.lost) {
            return found(NULL);
        }
        if (from.form != onto.form) {
            return found(STORE);
        }
        if (!from.hasRow(i, n) || !onto.hasRow(j, n)) {
            return found(INDEX);
        }
        onto.take(j, from, i, n);
        return 1;
    }

    public int write(int day, int s) {
        Sheet sheet = sheetAt(s);
        if (!isDay(day) || sheet == null) {
            return BAD;
        }
        if (sheet.lost) {
            return found(NULL);
        }
        Course then = behind(day);
        int many = Math.min(PERSONS, sheet.size);
        for (int person = 0; person < many; person++) {
            sheet.change(person, then.trustIn(person));
        }
        return many;
    }

    public int count(int what) {
        switch (what) {
            case 0: return wants.number;
            case 1: return wants.length;
            case 2: return behind(LAST_DAY).howManyWereMade();
            case 3: return behind(LAST_DAY).howManyEnded(KEPT);
            case 4: return behind(LAST_DAY).howManyEnded(BROKEN);
            case 5: return behind(LAST_DAY).howManyEnded(LAPSED);
            case 6: return country.forgivings.size;
            case 7: return sights.size;
            case 8: return finding;
            default: return BAD;
        }
    }

    /** One method, not several, so that the calls below it stay few deep. */
    public long digest() {
        long h = 17;
        for (int what = 0; what <= 7; what++) {
            h = mixed(h, count(what));
        }
        h = mixed(h, fault());
        for (int w = 0; w < wants.number; w++) {
            for (int what = 0; what <= 4; what++) {
                h = mixed(h, want(w, what));
            }
            for (int what = 0; what <= 2; what++) {
                h = mixed(h, made(w, what));
            }
            h = mixed(h, depth(w));
        }
        for (int n = 0; n < DAYS_OF_DIGEST.length; n++) {
            int day = DAYS_OF_DIGEST[n];
            h = mixed(h, held(day));
            h = mixed(h, waiting(day));
            h = mixed(h, price(day));
            h = mixed(h, cleared(day));
            h = mixed(h, room(day, 1, 9, 0));
            h = mixed(h, room(day, 1, 9, 1));
        }
        for (int person = 0; person < PERSONS; person++) {
            h = mixed(h, trust(person, 40));
            h = mixed(h, means(person, 40));
            h = mixed(h, owed(person, 0, 20));
        }
        for (int law = 0; law < LAWS; law++) {
            h = mixed(h, gain(law));
        }
        h = mixed(h, best());
        h = mixed(h, hoarder());
        h = mixed(h, rings());
        h = mixed(h, freed(0));
        h = mixed(h, freed(1));
        h = mixed(h, fits(0));
        h = mixed(h, fits(1));
        return mixed(h, unlike(0, 1));
    }

    private static long mixed(long h, int x) {
        return 31 * h + x;
    }

    /** The country as it is behind a day; days that passed already are not passed again. */
    private Course behind(int day) {
        if (stale || now.day > day) {
            now.begin(country.law, country.slots, NONE);
            stale = false;
        }
        now.passTo(day);
        return now;
    }

    /** Sets go by rising bits, so the first of like ones has the least. */
    private int cheapestToForgive(int heldBits, int k, int most) {
        int mayStay = country.slots - k;
        int cheapest = NONE;
        int least = OVER_ALL_WORTH;
        for (int set = 0; set <= heldBits; set++) {
            boolean isHeld = (set & ~heldBits) == 0;
            if (isHeld && Integer.bitCount(heldBits & ~set) <= mayStay) {
                int worth = wants.worthOf(set);
                if (worth < least && wants.nobodyLosesOver(set, most)) {
                    cheapest = set;
                    least = worth;
                }
            }
        }
        return cheapest;
    }

    private boolean fitsAllSights(int law, int slots) {
        supposed.begin(law, slots, NONE);
        supposed.passTo(LAST_DAY);
        for (int n = 0; n < sights.size; n++) {
            boolean wasHeld = supposed.isHeldBehind(sights.dayOf(n), sights.wantOf(n));
            if (wasHeld != (sights.valueOf(n) == 1)) {
                return false;
            }
        }
        return true;
    }

    private int found(int number) {
        finding = number;
        return -10 - number;
    }

    private Sheet sheetAt(int s) {
        return within(s, 0, SHEETS - 1) ? sheets[s] : null;
    }

    /** A want that there is. */
    private boolean isWant(int want) {
        return want >= 0 && want < wants.number;
    }

    /** A number that a want may have, whether there is such a want or not. */
    private static boolean isNumber(int want) {
        return want >= 0 && want < MOST_WANTS;
    }

    private static boolean isPerson(int person) {
        return person >= 0 && person < PERSONS;
    }

    private static boolean isDay(int day) {
        return day >= 0 && day <= LAST_DAY;
    }

    private static boolean isLaw(int law) {
        return law >= 0 && law < LAWS;
    }

    private static boolean isForm(int form) {
        return form >= 0 && form < FORMS;
    }

    private static boolean within(int x, int least, int most) {
        return x >= least && x <= most;
    }

    private static boolean hasBit(int bits, int n) {
        return (bits >> n & 1) == 1;
    }

    /** The text and what it says; it is read anew after each change. */
    private static final class Wants {
        /** Seven figures and what stands between two wants. */
        private static final int STEP = 8;

        private final int[] bytes = new int[MOST_BYTES];
        private final int[] who = new int[MOST_WANTS];
        private final int[] to = new int[MOST_WANTS];
        private final int[] asked = new int[MOST_WANTS];
        private final int[] due = new int[MOST_WANTS];
        private final int[] worth = new int[MOST_WANTS];
        private int length = 0;
        private int number = 0;
        private int faultAt = NONE;

        void append(int b) {
            if (length < MOST_BYTES) {
                bytes[length] = b;
                length++;
            }
            understand();
        }

        void clear() {
            length = 0;
            understand();
        }

        int all() {
            return (1 << number) - 1;
        }

        int worthOf(int set) {
            int sum = 0;
            for (int w = 0; w < number; w++) {
                sum += hasBit(set, w) ? worth[w] : 0;
            }
            return sum;
        }

        int greatestWorth(int set) {
            int most = 0;
            for (int w = 0; w < number; w++) {
                most = hasBit(set, w) ? Math.max(most, worth[w]) : most;
            }
            return most;
        }

        boolean nobodyLosesOver(int set, int most) {
            for (int person = 0; person < PERSONS; person++) {
                if (worthOf(set & thoseWith(to, person)) > most) {
                    return false;
                }
            }
            return true;
        }

        int owedOf(int set, int a, int b) {
            int there = set & thoseWith(who, a) & thoseWith(to, b);
            int back = set & thoseWith(who, b) & thoseWith(to, a);
            return worthOf(there) - worthOf(back);
        }

        private int thoseWith(int[] persons, int person) {
            int bits = 0;
            for (int w = 0; w < number && w < persons.length; w++) {
                bits |= persons[w] == person ? 1 << w : 0;
            }
            return bits;
        }

        private void understand() {
            faultAt = firstFault();
            number = faultAt == NONE ? Math.min(MOST_WANTS, (length + 1) / STEP) : 0;
            for (int w = 0; w < number; w++) {
                int start = w * STEP;
                who[w] = digit(start);
                to[w] = digit(start + 1);
                asked[w] = twoDigits(start + 2);
                due[w] = twoDigits(start + 4);
                worth[w] = digit(start + 6);
            }
        }

        private int firstFault() {
            for (int at = 0; at < length; at++) {
                if (!goesOnWith(at)) {
                    return at;
                }
            }
            return length == 0 || length % STEP == STEP - 1 ? NONE : length;
        }

        private boolean goesOnWith(int at) {
            int place = at % STEP;
            int start = at - place;
            int d = digit(at);
            switch (place) {
                case 0: return within(d, 0, PERSONS - 1) && at < MOST_WANTS * STEP;
                case 1: return within(d, 0, PERSONS - 1) && d != digit(start);
                case 5: return within(d, 0, 9) && twoDigits(start + 4) > twoDigits(start + 2);
                case 6: return within(d, 1, 9);
                case 7: return d == ';' - '0';
                default: return within(d, 0, 9);
            }
        }

        private int twoDigits(int at) {
            return 10 * digit(at) + digit(at + 1);
        }

        private int digit(int at) {
            return at >= 0 && at < length ? bytes[at] - '0' : NONE;
        }
    }

    /** Up to eight notes, each of a day, a want and a value. */
    private static final class Notes {
        private final int[] days = new int[MOST_NOTES];
        private final int[] numbers = new int[MOST_NOTES];
        private final int[] values = new int[MOST_NOTES];
        private int size = 0;

        boolean isFull() {
            return size >= MOST_NOTES;
        }

        int add(int day, int want, int value) {
            if (!isFull()) {
                days[size] = day;
                numbers[size] = want;
                values[size] = value;
                size++;
            }
            return size;
        }

        int dropLast() {
            size = Math.max(0, size - 1);
            return size;
        }

        int clear() {
            int had = size;
            size = 0;
            return had;
        }

        int dayOf(int n) {
            return within(n, 0, size - 1) ? days[n] : NONE;
        }

        int wantOf(int n) {
            return within(n, 0, size - 1) ? numbers[n] : NONE;
        }

        int valueOf(int n) {
            return within(n, 0, size - 1) ? values[n] : NONE;
        }
    }

    /** What is set: slots, law, means and trust at first, what is after what, forgivings. */
    private static final class Country {
        private static final int SLOTS = 0, LAW = 1, MEANS = 2, TRUST = 3;

        private int slots = 3;
        private int law = 0;
        private final int[] meansAtFirst = {9, 9, 9, 9, 9, 9};
        private final int[] trustAtFirst = {50, 50, 50, 50, 50, 50};
        /** Of each number those after which it is, as bits. */
        private final int[] ahead = new int[MOST_WANTS];
        private final Notes forgivings = new Notes();

        boolean allows(int what, int k, int v) {
            switch (what) {
                case SLOTS: return k == 0 && within(v, 1, MOST_SLOTS);
                case LAW: return k == 0 && isLaw(v);
                case MEANS: return isPerson(k) && within(v, 0, 9);
                case TRUST: return isPerson(k) && within(v, 0, 99);
                default: return false;
            }
        }

        /** Puts v and answers what it was, only where it is allowed. */
        int exchange(int what, int k, int v) {
            if (!allows(what, k, v)) {
                return BAD;
            }
            int was = what == SLOTS ? slots : law;
            if (what == SLOTS) {
                slots = v;
            } else if (what == LAW) {
                law = v;
            } else {
                int[] row = what == MEANS ? meansAtFirst : trustAtFirst;
                was = row[k];
                row[k] = v;
            }
            return was;
        }

        int exchangeAfter(int want, int other, int v) {
            if (!isNumber(want) || !isNumber(other)) {
                return BAD;
            }
            int was = ahead[want] >> other & 1;
            ahead[want] = v == 1 ? ahead[want] | 1 << other : ahead[want] & ~(1 << other);
            return was;
        }

        /** Those to which one comes in one step from any of a set, among some, as bits. */
        private int stepFrom(int set, int among) {
            int bits = 0;
            for (int w = 0; w < MOST_WANTS; w++) {
                bits |= hasBit(set, w) ? ahead[w] : 0;
            }
            return bits & among;
        }

        int ringsAmong(int among) {
            int bits = 0;
            for (int w = 0; w < MOST_WANTS; w++) {
                if (hasBit(among, w) && comesBack(w, among)) {
                    bits |= 1 << w;
                }
            }
            return bits;
        }

        private boolean comesBack(int want, int among) {
            int reached = stepFrom(1 << want, among);
            for (int steps = 1; steps < MOST_WANTS && !hasBit(reached, want); steps++) {
                reached |= stepFrom(reached, among);
            }
            return hasBit(reached, want);
        }

        /** How many wants the longest row has that begins in a set; NONE, if one has no end. */
        private int longestRowFrom(int set, int among) {
            int last = set & among;
            for (int many = 0; many <= MOST_WANTS; many++) {
                if (last == 0) {
                    return many;
                }
                int next = stepFrom(last, among);
                if (next == last) {
                    return NONE;
                }
                last = next;
            }
            return NONE;
        }

        int longestRow(int want, int among) {
            return isNumber(want) ? longestRowFrom(1 << want, among) : NONE;
        }

        /**
         * A want that is on no ring is never among the fewest: only those on rings are tried,
         * by rising bits, so that the first of like ones has the least.
         */
        int fewestThatFree(int among) {
            int onRings = ringsAmong(among);
            int fewest = onRings;
            for (int set = 0; set <= onRings; set++) {
                boolean fewer = Integer.bitCount(set) < Integer.bitCount(fewest);
                if ((set & ~onRings) == 0 && fewer && longestRowFrom(among, among & ~set) != NONE) {
                    fewest = set;
                }
            }
            return fewest;
        }
    }

    /** The days as they pass by a law, with a number of slots, perhaps without a forgiving. */
    private static final class Course {
        private final Wants wants;
        private final Country country;
        private final int[] trust = new int[PERSONS];
        private final int[] means = new int[PERSONS];
        private final int[] madeOn = new int[MOST_WANTS];
        private final int[] endedOn = new int[MOST_WANTS];
        private final int[] ending = new int[MOST_WANTS];
        private int law = 0;
        private int slots = 0;
        private int leftOut = NONE;
        private int day = NONE;
        private int heldBits = 0;
        private int waitingBits = 0;
        private int keptBits = 0;

        Course(Wants wants, Country country) {
            this.wants = wants;
            this.country = country;
        }

        void begin(int byLaw, int withSlots, int withoutForgiving) {
            law = byLaw;
            slots = withSlots;
            leftOut = withoutForgiving;
            day = NONE;
            heldBits = 0;
            waitingBits = 0;
            keptBits = 0;
            for (int person = 0; person < PERSONS; person++) {
                trust[person] = country.trustAtFirst[person];
                means[person] = country.meansAtFirst[person];
            }
            for (int w = 0; w < MOST_WANTS; w++) {
                madeOn[w] = NONE;
                endedOn[w] = NONE;
                ending[w] = 0;
            }
        }

        void passTo(int last) {
            int end = Math.min(last, LAST_DAY);
            while (day < end) {
                day++;
                endThoseDue();
                forgiveThoseTold();
                lapseThoseDue();
                makeThoseThatWait();
            }
        }

        private void endThoseDue() {
            for (int w = 0; w < wants.number; w++) {
                if (hasBit(heldBits, w) && wants.due[w] == day) {
                    fulfil(w);
                }
            }
        }

        /** Means are spent only on a promise that is kept. */
        private void fulfil(int w) {
            int who = isNumber(w) ? wants.who[w] : NONE;
            if (!isPerson(who)) {
                return;
            }
            boolean wordsGood = (country.ahead[w] & wants.all() & ~keptBits) == 0;
            if (means[who] > 0 && wordsGood) {
                means[who]--;
                trust[who] += wants.worth[w];
                keptBits |= 1 << w;
                end(w, KEPT);
            } else {
                trust[who] -= wants.worth[w];
                end(w, BROKEN);
            }
        }

        private void forgiveThoseTold() {
            Notes told = country.forgivings;
            for (int n = 0; n < told.size; n++) {
                if (n != leftOut && told.dayOf(n) == day && hasBit(heldBits, told.wantOf(n))) {
                    end(told.wantOf(n), FORGIVEN);
                }
            }
        }

        private void lapseThoseDue() {
            for (int w = 0; w < wants.number; w++) {
                if (wants.asked[w] == day) {
                    waitingBits |= 1 << w;
                }
                if (hasBit(waitingBits, w) && wants.due[w] == day) {
                    end(w, LAPSED);
                }
            }
        }

        private void end(int w, int how) {
            if (w >= 0 && w < MOST_WANTS) {
                heldBits &= ~(1 << w);
                waitingBits &= ~(1 << w);
                endedOn[w] = day;
                ending[w] = how;
            }
        }

        private void makeThoseThatWait() {
            for (int free = slots - Integer.bitCount(heldBits); free > 0 && waitingBits != 0; free--) {
                int w = nextToBeMade();
                if (isNumber(w)) {
                    heldBits |= 1 << w;
                    waitingBits &= ~(1 << w);
                    madeOn[w] = day;
                }
            }
        }

        private int nextToBeMade() {
            int next = NONE;
            for (int w = 0; w < wants.number; w++) {
                if (hasBit(waitingBits, w) && (next == NONE || standing(w) > standing(next))) {
                    next = w;
                }
            }
            return next;
        }

        /** The greater, the further ahead in the queue by the law. */
        private int standing(int w) {
            int who = w >= 0 && w < MOST_WANTS ? wants.who[w] : NONE;
            if (who < 0 || who >= PERSONS) {
                return 0;
            }
            switch (law) {
                case 0: return -wants.asked[w];
                case 1: return wants.worth[w];
                case 2: return -wants.due[w];
                default: return trust[who];
            }
        }

        int trustIn(int person) {
            return isPerson(person) ? trust[person] : 0;
        }

        int meansOf(int person) {
            return isPerson(person) ? means[person] : 0;
        }

        /** When a want was made (0), when it ended (1), how (2). */
        int fate(int w, int what) {
            if (!isNumber(w)) {
                return NONE;
            }
            return what == 0 ? madeOn[w] : what == 1 ? endedOn[w] : ending[w];
        }

        boolean isHeldBehind(int then, int w) {
            if (!isNumber(w) || madeOn[w] == NONE || madeOn[w] > then) {
                return false;
            }
            return endedOn[w] == NONE || endedOn[w] > then;
        }

        int worthThatEnded(int how) {
            int sum = 0;
            for (int w = 0; w < wants.number; w++) {
                sum += ending[w] == how ? wants.worth[w] : 0;
            }
            return sum;
        }

        int howManyEnded(int how) {
            int many = 0;
            for (int w = 0; w < wants.number; w++) {
                many += ending[w] == how ? 1 : 0;
            }
            return many;
        }

        int howManyWereMade() {
            int many = 0;
            for (int w = 0; w < wants.number; w++) {
                many += madeOn[w] == NONE ? 0 : 1;
            }
            return many;
        }

        /** Days behind which a promise was held: the day on which it ended is none of them. */
        int daysHeldBy(int person) {
            int days = 0;
            for (int w = 0; w < wants.number; w++) {
                if (wants.who[w] == person && madeOn[w] != NONE) {
                    days += endedOn[w] - madeOn[w];
                }
            }
            return days;
        }
    }

    /** Ints serve for every form: what is put is cut to the bits that the form has. */
    private static final class Sheet {
        private final int[] items = new int[MOST_ITEMS];
        private boolean lost = true;
        private int form = 0;
        private int size = 0;

        void renew(int newForm, int newSize) {
            lost = false;
            form = newForm;
            size = Math.max(0, Math.min(newSize, MOST_ITEMS));
            for (int i = 0; i < MOST_ITEMS; i++) {
                items[i] = 0;
            }
        }

        int drop() {
            int had = size;
            lost = true;
            size = 0;
            return had;
        }

        /** The finding that treating item i as of a form comes to; 0: none. */
        int findingAt(int asForm, int i) {
            if (lost) {
                return NULL;
            }
            if (form != asForm) {
                return CAST;
            }
            return hasRow(i, 1) ? 0 : INDEX;
        }

        boolean hasRow(int i, int n) {
            return i >= 0 && n >= 0 && i <= size && n <= size - i;
        }

        int item(int i) {
            return hasRow(i, 1) ? items[i] : 0;
        }

        void change(int i, int v) {
            if (hasRow(i, 1)) {
                items[i] = form == 0 ? (byte) v : form == 1 ? (short) v : v;
            }
        }

        void take(int j, Sheet from, int i, int n) {
            if (from != null && from.hasRow(i, n) && hasRow(j, n)) {
                System.arraycopy(from.items, i, items, j, n);
            }
        }
    }
}

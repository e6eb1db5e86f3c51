import java.util.Arrays;

/**
 * A tailor who cuts coats by what was promised. All rows are made in constructors and used again, because
 * all calls of a run live in one room: no call makes an object.
 */
public final class PromiseTailor {
    public static final int NONE = -1, BAD = -2, NOT = -3, FULL = -4;

    private static final int DAYS = 24, LAST_DAY = 23;
    private static final int MOST_PEOPLE = 8, MOST_PROMISES = 10;
    private static final int MOST_KEEPINGS = 8, MOST_LIES = 6, MOST_LETTINGS = 6, MOST_SEEN = 8;
    private static final int PEOPLE_BYTES = 23, PROMISES_BYTES = 49;
    private static final int GREATEST = 9, SIZES = 10, SORTS = 3, LONGEST_COAT = 99;
    private static final int SUITOR = 1, ALDERMAN = 2;
    private static final int UNMADE = 0, OPEN = 1, KEPT = 2, BROKEN = 3;
    private static final int FINDING_NULL = 1, FINDING_INDEX = 2, FINDING_CAST = 3, FINDING_STORE = 4, FINDING_SIZE = 5;
    private static final int LEAST_INT = 0x80000000;
    private static final long LEAST_LONG = 0x8000000000000000L;

    private final Text peopleText = new Text(PEOPLE_BYTES, false);
    private final Text promisesText = new Text(PROMISES_BYTES, true);
    private final Course course = new Course();
    private final Folk folk = course.folk;
    private final Vows vows = course.vows;
    private final Told keepings = course.keepings;
    private final Told lies = course.lies;
    private final Told lettings = course.lettings;
    private final Told sightings = new Told(MOST_SEEN);
    private final Told drawn = new Told(MOST_KEEPINGS);
    private final Sheets sheets = new Sheets();
    private final int[][] coatBySize = new int[SIZES][DAYS];
    private int latestFinding = 0;

    public PromiseTailor() {
    }

    // ---- people, promises, keepings, lies, lettings

    public int type(int text, int b) {
        if (!isText(text) || !isUpTo(b, 255)) {
            return BAD;
        }
        if (!textOf(text).append(b)) {
            return FULL;
        }
        takeTexts();
        return textOf(text).length;
    }

    public int wipe(int text) {
        if (!isText(text)) {
            return BAD;
        }
        int had = textOf(text).length;
        textOf(text).length = 0;
        takeTexts();
        return had;
    }

    public int undo(int text) {
        if (!isText(text)) {
            return BAD;
        }
        if (textOf(text).length == 0) {
            return NOT;
        }
        textOf(text).length--;
        takeTexts();
        return textOf(text).length;
    }

    public int fault(int text) {
        return isText(text) ? textOf(text).firstFault() : BAD;
    }

    public int person(int person, int what) {
        if (!folk.has(person) || !isUpTo(what, 1)) {
            return BAD;
        }
        return what == 0 ? folk.sorts[person] : folk.sizes[person];
    }

    public int promise(int promise, int what) {
        if (!vows.has(promise) || !isUpTo(what, 3)) {
            return BAD;
        }
        switch (what) {
            case 0:
                return vows.whose[promise];
            case 1:
                return vows.great[promise];
            case 2:
                return vows.made[promise];
            default:
                return vows.dues[promise];
        }
    }

    public int keeping(int day, int promise) {
        if (!mayBeKeeping(day, promise)) {
            return BAD;
        }
        return keepings.isFull() ? FULL : keepings.add(day, promise, 0);
    }

    public int lie(int day, int person, int much) {
        if (!isDay(day) || !mayBePerson(person) || !isGreat(much)) {
            return BAD;
        }
        return lies.isFull() ? FULL : lies.add(day, person, much);
    }

    public int letting(int day, int person, int much) {
        if (!isDay(day) || !mayBePerson(person) || !isGreat(much)) {
            return BAD;
        }
        return lettings.isFull() ? FULL : lettings.add(day, person, much);
    }

    public int back(int what) {
        if (!isUpTo(what, 2)) {
            return BAD;
        }
        Told told = what == 0 ? keepings : what == 1 ? lies : lettings;
        return told.size == 0 ? NOT : told.dropLast();
    }

    public int read(int s) {
        if (!Sheets.isSheet(s)) {
            return BAD;
        }
        if (sheets.isLost(s)) {
            return found(FINDING_NULL);
        }
        int taken = 0;
        for (int i = 0; i + 1 < sheets.lengths[s]; i += 2) {
            int day = sheets.rows[s][i];
            int promise = sheets.rows[s][i + 1];
            if (!mayBeKeeping(day, promise) || keepings.isFull()) {
                break;
            }
            keepings.add(day, promise, 0);
            taken++;
        }
        return taken;
    }

    // ---- days

    public int coat(int day, int person, int what) {
        if (!isDay(day) || !folk.has(person) || !isUpTo(what, 2)) {
            return BAD;
        }
        liveUntil(day);
        switch (what) {
            case 0:
                return course.lengths[person];
            case 1:
                return course.fits(person) ? 1 : 0;
            default:
                return course.rips[person];
        }
    }

    public int stands(int day, int promise) {
        if (!isDay(day) || !vows.has(promise)) {
            return BAD;
        }
        liveUntil(day);
        return course.standing[promise];
    }

    public int neat(int day) {
        if (!isDay(day)) {
            return BAD;
        }
        liveUntil(day);
        return course.fittingBits();
    }

    public int naked(int day) {
        if (!isDay(day)) {
            return BAD;
        }
        liveUntil(day);
        return course.nakedBits();
    }

    public int longest(int day) {
        if (!isDay(day)) {
            return BAD;
        }
        liveUntil(day);
        int which = NONE;
        int length = NONE;
        for (int i = 0; i < folk.size; i++) {
            if (course.lengths[i] > length) {
                which = i;
                length = course.lengths[i];
            }
        }
        return which;
    }

    public int splits() {
        liveUntil(LAST_DAY);
        return course.allRips();
    }

    public int best() {
        if (folk.size == 0) {
            return NONE;
        }
        course.arrange(keepings);
        course.begin();
        int which = NONE;
        int most = NONE;
        for (int day = 0; day < DAYS; day++) {
            course.advance(day);
            int fitting = Integer.bitCount(course.fittingBits());
            if (fitting > most) {
                which = day;
                most = fitting;
            }
        }
        return which;
    }

    // ---- plans

    public int swear(int person, int day) {
        if (!folk.has(person) || !isDay(day)) {
            return BAD;
        }
        int answer = NONE;
        for (int great = 1; great <= GREATEST && answer == NONE; great++) {
            vows.add(person, great, 0, NONE);
            liveUntil(day);
            if (course.fits(person)) {
                answer = great;
            }
            vows.dropLast();
        }
        return answer;
    }

    public int keep(int day, int what) {
        if (!isDay(day) || !isUpTo(what, 1)) {
            return BAD;
        }
        int which = NONE;
        int most = NONE;
        for (int i = 0; i < vows.size; i++) {
            keepings.add(day, i, 0);
            liveUntil(LAST_DAY);
            int fitting = Integer.bitCount(course.fittingBits());
            if (fitting > most) {
                which = i;
                most = fitting;
            }
            keepings.dropLast();
        }
        return what == 0 ? which : most;
    }

    public int due(int promise, int what) {
        if (!vows.has(promise) || !isUpTo(what, 1)) {
            return BAD;
        }
        int own = vows.dues[promise];
        int which = NONE;
        int fewest = MOST_PROMISES + 1;
        for (int day = 0; day < DAYS; day++) {
            vows.dues[promise] = day;
            liveUntil(LAST_DAY);
            if (course.allRips() < fewest) {
                which = day;
                fewest = course.allRips();
            }
        }
        vows.dues[promise] = own;
        return what == 0 ? which : fewest;
    }

    public int hush(int i) {
        if (i < NONE || i > 1) {
            return BAD;
        }
        int hushed = liesToHush();
        if (hushed == NONE) {
            return NONE;
        }
        int many = Integer.bitCount(hushed);
        if (i == NONE) {
            return many;
        }
        if (i >= many) {
            return NONE;
        }
        // of two bits the higher is left when the lowest is taken away
        int rest = i == 0 ? hushed : hushed & (hushed - 1);
        return Integer.numberOfTrailingZeros(rest);
    }

    // ---- seen, words, years

    public int seen(int day, int person, int much) {
        if (!isDay(day) || !mayBePerson(person) || !isUpTo(much, LONGEST_COAT)) {
            return BAD;
        }
        return sightings.isFull() ? FULL : sightings.add(day, person, much);
    }

    public int forget() {
        int had = sightings.size;
        sightings.size = 0;
        return had;
    }

    public int never() {
        course.arrange(keepings);
        int bits = 0;
        for (int i = 0; i < keepings.size; i++) {
            course.unkept = 1 << i;
            if (course.showsAll(sightings)) {
                bits |= 1 << i;
            }
        }
        return bits;
    }

    public int was(int person, int what) {
        if (!folk.has(person) || !isUpTo(what, 1)) {
            return BAD;
        }
        course.arrange(keepings);
        return what == 0 ? fittingValues(folk.sizes, person, SIZES) : fittingValues(folk.sorts, person, SORTS);
    }

    public int ask(int person) {
        if (!folk.has(person)) {
            return BAD;
        }
        course.arrange(keepings);
        int sizes = fittingValues(folk.sizes, person, SIZES);
        noteCoatsBySize(person);
        int which = NONE;
        int least = SIZES + 1;
        for (int day = 0; day < DAYS; day++) {
            int alike = mostAlike(sizes, day);
            if (alike < least) {
                which = day;
                least = alike;
            }
        }
        return which;
    }

    public long word(int c, int person, int day, int what) {
        if (!isUpTo(c, 16) || !folk.has(person) || !isDay(day) || !isUpTo(what, 1)) {
            return LEAST_LONG - BAD;
        }
        course.arrange(keepings);
        // KEEPINGS of other people's PROMISES change nothing here, so the chance is taken over the rest
        int touching = keepingsOf(person);
        long above = 0;
        long below = 1L << (4 * Integer.bitCount(touching));
        for (int unkept = 0; unkept < 1 << MOST_KEEPINGS; unkept++) {
            if ((unkept & ~touching) == 0) {
                course.unkept = unkept;
                course.begin();
                course.advance(day);
                if (course.fits(person)) {
                    above += weight(c, touching, unkept);
                }
            }
        }
        // below is a power of two, so halving both is all there is to lowest terms
        for (int i = 0; i < 4 * MOST_KEEPINGS && below > 1 && (above & 1) == 0; i++) {
            above >>= 1;
            below >>= 1;
        }
        return what == 0 ? above : below;
    }

    public int year(int seed, int n, int what) {
        if (!isUpTo(n, MOST_KEEPINGS) || !isUpTo(what, 1)) {
            return BAD;
        }
        drawKeepings(seed, n);
        course.arrange(drawn);
        course.begin();
        course.advance(LAST_DAY);
        return what == 0 ? course.allRips() : Integer.bitCount(course.fittingBits());
    }

    // ---- sheets

    public int sheet(int s, int form, int n) {
        if (!Sheets.isSheet(s) || !Sheets.isForm(form) || n > Sheets.MOST_ITEMS) {
            return BAD;
        }
        if (n < 0) {
            return found(FINDING_SIZE);
        }
        sheets.lay(s, form, n);
        return n;
    }

    public int lose(int s) {
        if (!Sheets.isSheet(s)) {
            return BAD;
        }
        if (sheets.isLost(s)) {
            return found(FINDING_NULL);
        }
        sheets.forms[s] = NONE;
        return sheets.lengths[s];
    }

    public int put(int s, int form, int i, int v) {
        if (!Sheets.isSheet(s) || !Sheets.isForm(form)) {
            return BAD;
        }
        int finding = sheets.findingAt(s, form, i);
        if (finding != 0) {
            return found(finding);
        }
        sheets.store(s, i, v);
        return 1;
    }

    public int get(int s, int form, int i) {
        if (!Sheets.isSheet(s) || !Sheets.isForm(form)) {
            return LEAST_INT;
        }
        int finding = sheets.findingAt(s, form, i);
        if (finding != 0) {
            found(finding);
            return LEAST_INT;
        }
        return sheets.rows[s][i];
    }

    public int copy(int s, int i, int t, int j, int n) {
        if (!Sheets.isSheet(s) || !Sheets.isSheet(t)) {
            return BAD;
        }
        if (sheets.isLost(s) || sheets.isLost(t)) {
            return found(FINDING_NULL);
        }
        if (sheets.forms[s] != sheets.forms[t]) {
            return found(FINDING_STORE);
        }
        if (!sheets.hasItems(s, i, n) || !sheets.hasItems(t, j, n)) {
            return found(FINDING_INDEX);
        }
        System.arraycopy(sheets.rows[s], i, sheets.rows[t], j, n);
        return 1;
    }

    public int write(int person, int s) {
        if (!folk.has(person) || !Sheets.isSheet(s)) {
            return BAD;
        }
        if (sheets.isLost(s)) {
            return found(FINDING_NULL);
        }
        int many = Math.min(DAYS, sheets.lengths[s]);
        course.arrange(keepings);
        course.begin();
        for (int day = 0; day < many; day++) {
            course.advance(day);
            sheets.store(s, day, course.lengths[person]);
        }
        return many;
    }

    public int count(int what) {
        switch (what) {
            case 0:
                return folk.size;
            case 1:
                return vows.size;
            case 2:
                return peopleText.length;
            case 3:
                return promisesText.length;
            case 4:
                return keepings.size;
            case 5:
                return lies.size;
            case 6:
                return lettings.size;
            case 7:
                return sightings.size;
            case 8:
                return latestFinding;
            default:
                return BAD;
        }
    }

    public long digest() {
        long h = 17;
        for (int what = 0; what <= 7; what++) {
            h = mixed(h, count(what));
        }
        h = mixed(h, fault(0));
        h = mixed(h, fault(1));
        for (int i = 0; i < vows.size; i++) {
            h = withPromise(h, i);
        }
        for (int i = 0; i < folk.size; i++) {
            h = withPerson(h, i);
        }
        for (int day = 0; day < DAYS; day++) {
            h = mixed(h, neat(day));
            h = mixed(h, naked(day));
            h = mixed(h, longest(day));
        }
        h = mixed(h, splits());
        h = mixed(h, best());
        h = mixed(h, keep(8, 0));
        h = mixed(h, keep(8, 1));
        h = mixed(h, hush(NONE));
        h = mixed(h, hush(0));
        h = mixed(h, never());
        h = mixed(h, year(7, 6, 0));
        return mixed(h, year(7, 6, 1));
    }

    // ---- what a number may be

    private static boolean isUpTo(int number, int most) {
        return number >= 0 && number <= most;
    }

    private static boolean isText(int text) {
        return isUpTo(text, 1);
    }

    private static boolean isDay(int day) {
        return isUpTo(day, LAST_DAY);
    }

    private static boolean isGreat(int much) {
        return much >= 1 && much <= GREATEST;
    }

    private static boolean mayBePerson(int person) {
        return isUpTo(person, MOST_PEOPLE - 1);
    }

    private static boolean mayBeKeeping(int day, int promise) {
        return isDay(day) && isUpTo(promise, MOST_PROMISES - 1);
    }

    // ---- parts of the calls

    private Text textOf(int text) {
        return text == 0 ? peopleText : promisesText;
    }

    private void takeTexts() {
        folk.take(peopleText);
        vows.take(promisesText);
    }

    private int found(int finding) {
        latestFinding = finding;
        return -10 - finding;
    }

    private void liveUntil(int day) {
        course.arrange(keepings);
        course.begin();
        course.advance(day);
    }

    /** The LIES of HUSH as bits, or NONE. */
    private int liesToHush() {
        course.arrange(keepings);
        if (leavesNobodyNaked(0)) {
            return 0;
        }
        for (int i = 0; i < lies.size; i++) {
            if (leavesNobodyNaked(1 << i)) {
                return 1 << i;
            }
        }
        for (int i = 0; i < lies.size; i++) {
            for (int j = i + 1; j < lies.size; j++) {
                if (leavesNobodyNaked(1 << i | 1 << j)) {
                    return 1 << i | 1 << j;
                }
            }
        }
        return NONE;
    }

    private boolean leavesNobodyNaked(int hushed) {
        course.hushed = hushed;
        course.begin();
        course.advance(LAST_DAY);
        return course.nakedBits() == 0;
    }

    /** Which values 0 to many - 1 of a PERSON, in place of its own in a row, let all that was SEEN come out so, as bits. */
    private int fittingValues(int[] row, int person, int many) {
        int own = row[person];
        int bits = 0;
        for (int value = 0; value < many; value++) {
            row[person] = value;
            if (course.showsAll(sightings)) {
                bits |= 1 << value;
            }
        }
        row[person] = own;
        return bits;
    }

    private void noteCoatsBySize(int person) {
        int own = folk.sizes[person];
        for (int size = 0; size < SIZES; size++) {
            folk.sizes[person] = size;
            course.begin();
            for (int day = 0; day < DAYS; day++) {
                course.advance(day);
                coatBySize[size][day] = course.lengths[person];
            }
        }
        folk.sizes[person] = own;
    }

    /** How many of some SIZES at most make the COAT equally long behind a DAY. */
    private int mostAlike(int sizes, int day) {
        int most = 0;
        for (int one = 0; one < SIZES; one++) {
            int alike = 0;
            for (int other = 0; other < SIZES; other++) {
                boolean bothAsked = (sizes >> one & 1) == 1 && (sizes >> other & 1) == 1;
                if (bothAsked && coatBySize[one][day] == coatBySize[other][day]) {
                    alike++;
                }
            }
            most = Math.max(most, alike);
        }
        return most;
    }

    private int keepingsOf(int person) {
        int bits = 0;
        for (int i = 0; i < keepings.size; i++) {
            int promise = keepings.subjects[i];
            if (vows.has(promise) && vows.whose[promise] == person) {
                bits |= 1 << i;
            }
        }
        return bits;
    }

    private static long weight(int c, int touching, int unkept) {
        long product = 1;
        for (int i = 0; i < MOST_KEEPINGS; i++) {
            if ((touching >> i & 1) == 1) {
                product *= (unkept >> i & 1) == 1 ? 16 - c : c;
            }
        }
        return product;
    }

    private void drawKeepings(int seed, int n) {
        drawn.size = 0;
        if (vows.size == 0) {
            return;
        }
        int state = seed;
        for (int i = 0; i < n; i++) {
            state = nextSeed(state);
            int day = (state >>> 16) % DAYS;
            state = nextSeed(state);
            drawn.add(day, (state >>> 16) % vows.size, 0);
        }
    }

    private static int nextSeed(int seed) {
        return 1103515245 * seed + 12345;
    }

    private static long mixed(long h, long value) {
        return 31 * h + value;
    }

    private long withPromise(long start, int promise) {
        long h = start;
        for (int what = 0; what <= 3; what++) {
            h = mixed(h, promise(promise, what));
        }
        h = mixed(h, stands(8, promise));
        h = mixed(h, stands(LAST_DAY, promise));
        h = mixed(h, due(promise, 0));
        return mixed(h, due(promise, 1));
    }

    private long withPerson(long start, int person) {
        long h = mixed(start, person(person, 0));
        h = mixed(h, person(person, 1));
        h = withCoat(h, 0, person);
        h = withCoat(h, 6, person);
        h = withCoat(h, 14, person);
        h = withCoat(h, LAST_DAY, person);
        h = mixed(h, swear(person, 14));
        h = mixed(h, was(person, 0));
        h = mixed(h, was(person, 1));
        h = mixed(h, ask(person));
        h = mixed(h, word(5, person, 14, 0));
        return mixed(h, word(5, person, 14, 1));
    }

    private long withCoat(long start, int day, int person) {
        long h = mixed(start, coat(day, person, 0));
        h = mixed(h, coat(day, person, 1));
        return mixed(h, coat(day, person, 2));
    }

    /** A text that is typed. Its room ends with its last PERSON or PROMISE, so there never is one too many. */
    private static final class Text {
        final int[] bytes = new int[PROMISES_BYTES];
        final int room;
        final boolean ofPromises;
        int length = 0;

        Text(int room, boolean ofPromises) {
            this.room = Math.min(room, PROMISES_BYTES);
            this.ofPromises = ofPromises;
        }

        boolean append(int b) {
            if (length >= room) {
                return false;
            }
            bytes[length] = b;
            length++;
            return true;
        }

        int firstFault() {
            for (int i = 0; i < length; i++) {
                boolean goesOn = ofPromises ? goesOnInPromises(i, bytes[i]) : goesOnInPeople(i, bytes[i]);
                if (!goesOn) {
                    return i;
                }
            }
            boolean ended = length == 0 || (ofPromises ? length % 5 == 4 : length % 3 == 2);
            return ended ? NONE : length;
        }

        private static boolean goesOnInPeople(int place, int b) {
            switch (place % 3) {
                case 0:
                    return b == 'm' || b == 's' || b == 'a';
                case 1:
                    return b >= '0' && b <= '9';
                default:
                    return b == ';';
            }
        }

        private static boolean goesOnInPromises(int place, int b) {
            switch (place % 5) {
                case 0:
                    return b >= 'a' && b <= 'h';
                case 1:
                    return b >= '1' && b <= '9';
                case 4:
                    return b == ';';
                default:
                    return b >= 'a' && b <= 'x';
            }
        }
    }

    /** The PEOPLE. */
    private static final class Folk {
        final int[] sorts = new int[MOST_PEOPLE];
        final int[] sizes = new int[MOST_PEOPLE];
        int size = 0;

        boolean has(int person) {
            return person >= 0 && person < size;
        }

        void take(Text text) {
            size = text.firstFault() == NONE ? Math.min((text.length + 1) / 3, MOST_PEOPLE) : 0;
            for (int i = 0; i < size; i++) {
                int sign = text.bytes[3 * i];
                sorts[i] = sign == 's' ? SUITOR : sign == 'a' ? ALDERMAN : 0;
                sizes[i] = text.bytes[3 * i + 1] - '0';
            }
        }
    }

    /** The PROMISES, with room for the one more of SWEAR. */
    private static final class Vows {
        final int[] whose = new int[MOST_PROMISES + 1];
        final int[] great = new int[MOST_PROMISES + 1];
        final int[] made = new int[MOST_PROMISES + 1];
        final int[] dues = new int[MOST_PROMISES + 1];
        int size = 0;

        boolean has(int promise) {
            return promise >= 0 && promise < size;
        }

        void take(Text text) {
            int many = text.firstFault() == NONE ? Math.min((text.length + 1) / 5, MOST_PROMISES) : 0;
            size = 0;
            for (int i = 0; i < many; i++) {
                int at = 5 * i;
                add(text.bytes[at] - 'a', text.bytes[at + 1] - '0', text.bytes[at + 2] - 'a', text.bytes[at + 3] - 'a');
            }
        }

        void add(int person, int much, int madeOn, int dueOn) {
            if (size <= MOST_PROMISES) {
                whose[size] = person;
                great[size] = much;
                made[size] = madeOn;
                dues[size] = dueOn;
                size++;
            }
        }

        void dropLast() {
            if (size > 0) {
                size--;
            }
        }
    }

    /** What was told for a DAY of a PERSON or a PROMISE, one behind the other; a row is longer by one, for plans. */
    private static final class Told {
        static final int ROWS = 9;
        final int[] days = new int[ROWS];
        final int[] subjects = new int[ROWS];
        final int[] much = new int[ROWS];
        final int room;
        int size = 0;

        Told(int room) {
            this.room = room;
        }

        boolean isFull() {
            return size >= room;
        }

        int add(int day, int subject, int byMuch) {
            if (size < ROWS) {
                days[size] = day;
                subjects[size] = subject;
                much[size] = byMuch;
                size++;
            }
            return size;
        }

        int dropLast() {
            if (size > 0) {
                size--;
            }
            return size;
        }
    }

    /** All that happens in a year in its order, and how everything stands behind a DAY of it. */
    private static final class Course {
        static final int MAKING = 0, KEEPING = 1, BREAKING = 2, LYING = 3, LETTING = 4, KINDS = 5;
        // the PROMISES of a plan twice, and the rows of KEEPINGS, LIES and LETTINGS
        static final int MOST_ACTS = 2 * (MOST_PROMISES + 1) + 3 * Told.ROWS;
        final Folk folk = new Folk();
        final Vows vows = new Vows();
        final Told keepings = new Told(MOST_KEEPINGS);
        final Told lies = new Told(MOST_LIES);
        final Told lettings = new Told(MOST_LETTINGS);
        final int[] keys = new int[MOST_ACTS];
        final int[] subjects = new int[MOST_ACTS];
        final int[] lengths = new int[MOST_PEOPLE];
        final int[] rips = new int[MOST_PEOPLE];
        final int[] standing = new int[MOST_PROMISES + 1];
        int acts = 0;
        int next = 0;
        // bits of KEEPINGS and LIES that are left out
        int unkept = 0;
        int hushed = 0;
        // KEEPINGS as told, or those that a year by a seed has in their place
        Told chosen = keepings;

        /** Puts all acts in their order; what is of nobody, or of no PROMISE that is there, never comes to pass. */
        void arrange(Told kept) {
            chosen = kept;
            acts = 0;
            unkept = 0;
            hushed = 0;
            for (int i = 0; i < vows.size; i++) {
                if (folk.has(vows.whose[i])) {
                    enter(vows.made[i], MAKING, i);
                    if (vows.dues[i] != NONE) {
                        enter(vows.dues[i], BREAKING, i);
                    }
                }
            }
            for (int i = 0; i < chosen.size; i++) {
                if (vows.has(chosen.subjects[i])) {
                    enter(chosen.days[i], KEEPING, i);
                }
            }
            enterAll(lies, LYING);
            enterAll(lettings, LETTING);
        }

        private void enterAll(Told told, int kind) {
            for (int i = 0; i < told.size; i++) {
                if (folk.has(told.subjects[i])) {
                    enter(told.days[i], kind, i);
                }
            }
        }

        /** An act comes behind those of its DAY and kind that were entered before. */
        private void enter(int day, int kind, int subject) {
            if (acts >= MOST_ACTS) {
                return;
            }
            int key = KINDS * day + kind;
            int at = acts;
            while (at > 0 && keys[at - 1] > key) {
                keys[at] = keys[at - 1];
                subjects[at] = subjects[at - 1];
                at--;
            }
            keys[at] = key;
            subjects[at] = subject;
            acts++;
        }

        void begin() {
            next = 0;
            System.arraycopy(folk.sizes, 0, lengths, 0, MOST_PEOPLE);
            Arrays.fill(rips, 0);
            Arrays.fill(standing, UNMADE);
        }

        /** Goes on until the end of a DAY. */
        void advance(int day) {
            while (next < acts && keys[next] < KINDS * (day + 1)) {
                int subject = subjects[next];
                switch (keys[next] % KINDS) {
                    case MAKING:
                        standing[subject] = OPEN;
                        lengthen(vows.whose[subject], gain(subject));
                        break;
                    case KEEPING:
                        if ((unkept >> subject & 1) == 0) {
                            fulfil(chosen.subjects[subject]);
                        }
                        break;
                    case BREAKING:
                        fail(subject);
                        break;
                    case LYING:
                        if ((hushed >> subject & 1) == 0) {
                            shorten(lies.subjects[subject], lies.much[subject]);
                        }
                        break;
                    default:
                        lengthen(lettings.subjects[subject], lettings.much[subject]);
                        break;
                }
                next++;
            }
        }

        private int gain(int promise) {
            int sort = folk.sorts[vows.whose[promise]];
            int great = vows.great[promise];
            return sort == SUITOR ? 2 * great : sort == ALDERMAN ? great : great / 2;
        }

        private void fulfil(int promise) {
            if (standing[promise] != OPEN) {
                return;
            }
            standing[promise] = KEPT;
            int person = vows.whose[promise];
            int size = folk.sizes[person];
            int great = vows.great[promise];
            if (lengths[person] > size) {
                lengths[person] = Math.max(size, lengths[person] - great);
            } else {
                lengths[person] = Math.min(size, lengths[person] + great);
            }
        }

        private void fail(int promise) {
            if (standing[promise] != OPEN) {
                return;
            }
            standing[promise] = BROKEN;
            int person = vows.whose[promise];
            shorten(person, folk.sorts[person] == ALDERMAN ? gain(promise) + 2 : gain(promise));
            rips[person]++;
        }

        private void lengthen(int person, int much) {
            int length = lengths[person] + much;
            lengths[person] = length > LONGEST_COAT ? LONGEST_COAT : length;
        }

        private void shorten(int person, int much) {
            int length = lengths[person] - much;
            lengths[person] = length < 0 ? 0 : length;
        }

        boolean fits(int person) {
            int over = lengths[person] - folk.sizes[person];
            return over == 0 || over == 1;
        }

        int fittingBits() {
            int bits = 0;
            for (int i = 0; i < folk.size; i++) {
                if (fits(i)) {
                    bits |= 1 << i;
                }
            }
            return bits;
        }

        int nakedBits() {
            int bits = 0;
            for (int i = 0; i < folk.size; i++) {
                if (lengths[i] == 0) {
                    bits |= 1 << i;
                }
            }
            return bits;
        }

        int allRips() {
            int all = 0;
            for (int i = 0; i < folk.size; i++) {
                all += rips[i];
            }
            return all;
        }

        /** Whether a new run of the year shows every COAT as it was SEEN. */
        boolean showsAll(Told sightings) {
            begin();
            for (int day = 0; day < DAYS; day++) {
                advance(day);
                if (!showsBehind(day, sightings)) {
                    return false;
                }
            }
            return true;
        }

        private boolean showsBehind(int day, Told sightings) {
            for (int i = 0; i < sightings.size; i++) {
                int person = sightings.subjects[i];
                if (sightings.days[i] == day && !(folk.has(person) && lengths[person] == sightings.much[i])) {
                    return false;
                }
            }
            return true;
        }
    }

    /** The SHEETS: items of every FORM are held as ints that were cut to the FORM when they came. */
    private static final class Sheets {
        static final int MOST_SHEETS = 4, MOST_ITEMS = 60, BYTES = 0, SHORTS = 1, INTS = 2;
        final int[][] rows = new int[MOST_SHEETS][MOST_ITEMS];
        final int[] lengths = new int[MOST_SHEETS];
        final int[] forms = new int[MOST_SHEETS];

        Sheets() {
            Arrays.fill(forms, NONE);
        }

        static boolean isSheet(int s) {
            return isUpTo(s, MOST_SHEETS - 1);
        }

        static boolean isForm(int form) {
            return isUpTo(form, INTS);
        }

        boolean isLost(int s) {
            return forms[s] == NONE;
        }

        void lay(int s, int form, int n) {
            forms[s] = form;
            lengths[s] = n;
            Arrays.fill(rows[s], 0);
        }

        /** What is found when an item is treated as of a FORM: 0 if all is well. */
        int findingAt(int s, int form, int i) {
            if (isLost(s)) {
                return FINDING_NULL;
            }
            if (forms[s] != form) {
                return FINDING_CAST;
            }
            return hasItems(s, i, 1) ? 0 : FINDING_INDEX;
        }

        boolean hasItems(int s, int from, int n) {
            return from >= 0 && n >= 0 && n <= lengths[s] && from <= lengths[s] - n;
        }

        void store(int s, int i, int v) {
            rows[s][i] = forms[s] == BYTES ? (byte) v : forms[s] == SHORTS ? (short) v : v;
        }
    }
}

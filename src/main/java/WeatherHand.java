/** Handwriting by the weather: an archive of papers, and what can be tried on it. */
public final class WeatherHand {
    public static final int NONE = -1, UNKNOWN = -1000000001, OUTSIDE = -1000000002, NOT = -1000000003, FULL = -1000000004;

    private static final int TEXT_MOST = 230;
    private static final int HOURS = 96;
    private static final int DAY_HOURS = 12;
    private static final int DAYS = 8;
    private static final int DAMP_MOST = 19;
    private static final int RAINS_MOST = 8;
    private static final int RAIN_NUMBERS = 10;
    private static final int HANDS_MOST = 4;
    private static final int PAPERS_MOST = 4;
    private static final int PLACES = 12;
    private static final int LOOK_MOST = 9999;
    private static final int BOOK_MOST = 20;
    private static final int DEEDS_MOST = 30;
    private static final int DRIFTS_MOST = 30;
    private static final int MILLION = 1000000;

    private static final int NO_FAULT = 0;
    private static final int CANNOT_STAND = 1;
    private static final int BAD_NUMBER = 2;
    private static final int TOO_MANY = 3;

    private final Reader reader;
    private final Archive archive;
    private final Archive imageZero;
    private final Archive imageOne;
    private final Deeds deeds;
    private final Book book;
    private final Beginnings beginnings;
    private final Finding finding;
    private final int[] measured;
    private Valley here;
    private Valley draft;
    private int faultAt;

    public WeatherHand() {
        reader = new Reader();
        archive = new Archive();
        imageZero = new Archive();
        imageOne = new Archive();
        deeds = new Deeds();
        book = new Book();
        beginnings = new Beginnings();
        finding = new Finding();
        measured = new int[PAPERS_MOST];
        here = new Valley();
        draft = new Valley();
        faultAt = NONE;
    }

    // ---- the valley

    public int feed(int letter) {
        if (letter < 0 || letter > 255) {
            return OUTSIDE;
        }
        return reader.take(letter);
    }

    public int valley() {
        draft.clear();
        int kind = reader.readInto(draft);
        faultAt = reader.faultAt;
        if (kind != NO_FAULT) {
            return -10 - kind;
        }
        Valley old = here;
        here = draft;
        draft = old;
        here.fillLooks();
        archive.beginAs(here);
        imageZero.kept = false;
        imageOne.kept = false;
        deeds.forget();
        dropMeasures();
        book.entries = 0;
        return here.papers;
    }

    public int fault() {
        return faultAt;
    }

    public int told(int what) {
        switch (what) {
            case 0: return here.told ? 1 : 0;
            case 1: return here.turn;
            case 2: return here.firstDamp;
            case 3: return here.lightHours;
            case 4: return here.hands;
            case 5: return here.papers;
            case 6: return reader.length;
            case 7: return archive.bottled;
            case 8: return archive.countAll();
            case 9: return book.entries;
            case 10: return deeds.count;
            default: return OUTSIDE;
        }
    }

    public int weather(int t, int what) {
        if (!isHour(t) || what < 0 || what > 2) {
            return OUTSIDE;
        }
        if (!here.told) {
            return NOT;
        }
        if (what == 0) {
            return here.windAt(t);
        }
        return what == 1 ? here.dampAt(t, here.rainOf(t / DAY_HOURS)) : here.lightAt(t);
    }

    public int hand(int h, int what) {
        if (!here.hasHand(h)) {
            return UNKNOWN;
        }
        switch (what) {
            case 0: return here.leans[h];
            case 1: return here.fills[h];
            case 2: return here.presses[h];
            default: return OUTSIDE;
        }
    }

    public int letter(int p, int l, int what) {
        if (!here.hasPaper(p)) {
            return UNKNOWN;
        }
        if (l == NONE) {
            return ofAllLetters(p, what);
        }
        if (!archive.hasLetter(p, l)) {
            return UNKNOWN;
        }
        switch (what) {
            case 0: return archive.lookOf(here, p, l);
            case 1: return archive.hourOf(p, l);
            case 2: return archive.writerOf(p, l);
            case 3: return isMeasured(p, l) ? 1 : 0;
            case 4: return archive.isForged(p, l) ? 1 : 0;
            default: return OUTSIDE;
        }
    }

    // ---- deeds

    public int add(int p, int h, int t, boolean bottled) {
        if (!here.hasPaper(p) || !here.hasHand(h)) {
            return UNKNOWN;
        }
        if (!isHour(t)) {
            return OUTSIDE;
        }
        if (bottled && archive.bottled == NONE) {
            return NOT;
        }
        if (archive.isFull(p)) {
            return FULL;
        }
        append(p, h, t, bottled ? archive.bottled : NONE);
        return archive.countOf(p);
    }

    public int blot(int p) {
        if (!here.hasPaper(p)) {
            return UNKNOWN;
        }
        int last = archive.countOf(p) - 1;
        if (last < 0) {
            return NOT;
        }
        int gone = archive.lookOf(here, p, last);
        deeds.noteBlotted(p, archive.writerOf(p, last), archive.hourOf(p, last), archive.airOf(p, last));
        archive.dropLast(p);
        return gone;
    }

    public int bottle(int t) {
        if (t != NONE && !isHour(t)) {
            return OUTSIDE;
        }
        if (!here.told) {
            return NOT;
        }
        int before = archive.bottled;
        deeds.noteBottled(before);
        archive.bottled = t;
        return before;
    }

    public int drift(int n) {
        if (n < 1 || n > DRIFTS_MOST) {
            return OUTSIDE;
        }
        if (here.hands < 1 || here.papers < 1) {
            return NOT;
        }
        for (int k = 0; k < n; k++) {
            int p = archive.draw(here.papers);
            int h = archive.draw(here.hands);
            int t = archive.draw(HOURS);
            if (!archive.isFull(p)) {
                append(p, h, t, NONE);
            }
        }
        return archive.countAll();
    }

    public int undo(int n) {
        if (n < 1 || n > DEEDS_MOST) {
            return OUTSIDE;
        }
        if (n > deeds.count) {
            return NOT;
        }
        for (int k = 0; k < n; k++) {
            deeds.takeBackLast(archive);
        }
        return archive.countAll();
    }

    // ---- tried

    public int look(int h, int t) {
        if (!here.hasHand(h)) {
            return UNKNOWN;
        }
        return isHour(t) ? here.lookAt(h, t) : OUTSIDE;
    }

    public int written(int p, int l, int h, int i) {
        if (!here.hasPaper(p) || !archive.hasLetter(p, l) || !here.hasHand(h)) {
            return UNKNOWN;
        }
        return here.hoursOfLook(h, archive.lookOf(here, p, l), i);
    }

    public int who(int p, int l) {
        if (!here.hasPaper(p) || !archive.hasLetter(p, l)) {
            return UNKNOWN;
        }
        int wanted = archive.lookOf(here, p, l);
        int set = 0;
        for (int h = 0; h < here.hands; h++) {
            if (here.firstHour(h, wanted, 0) != NONE) {
                set |= 1 << h;
            }
        }
        return set;
    }

    public int dated(int p, int h, int what) {
        if (!here.hasPaper(p) || !here.hasHand(h)) {
            return UNKNOWN;
        }
        if (what < 0 || what > 2) {
            return OUTSIDE;
        }
        int length = archive.countOf(p);
        int many = 0;
        int first = NONE;
        int last = NONE;
        for (int t = 0; t < HOURS && t + length <= HOURS; t++) {
            if (archive.rowFrom(here, p, 0, h, t) == length) {
                many++;
                first = first == NONE ? t : first;
                last = t;
            }
        }
        if (what == 0) {
            return many;
        }
        return what == 1 ? first : last;
    }

    public int addedAt(int p, int h, int what) {
        if (!here.hasPaper(p) || !here.hasHand(h)) {
            return UNKNOWN;
        }
        if (what == 0) {
            return archive.longestRow(here, p, 0, h);
        }
        return what == 1 ? archive.fewestRows(here, p, h) : OUTSIDE;
    }

    public int next(int p, int what) {
        if (!here.hasPaper(p)) {
            return UNKNOWN;
        }
        if (what < 0 || what > 1) {
            return OUTSIDE;
        }
        beginnings.gather(here, archive, p, measured[p]);
        return what == 0 ? beginnings.count : beginnings.bestLetter(here, archive.countOf(p));
    }

    public int soonest(int h, int look, int t) {
        if (!here.hasHand(h)) {
            return UNKNOWN;
        }
        if (!isLook(look) || !isHour(t)) {
            return OUTSIDE;
        }
        return here.firstHour(h, look, t);
    }

    public int likely(int h, int look) {
        if (!here.hasHand(h)) {
            return UNKNOWN;
        }
        if (!isLook(look)) {
            return OUTSIDE;
        }
        return here.hoursOfLook(h, look, NONE) * MILLION / HOURS;
    }

    public int hands(int p) {
        if (p != NONE && !here.hasPaper(p)) {
            return UNKNOWN;
        }
        if (here.papers > here.hands) {
            return NONE;
        }
        finding.compare(here, archive);
        finding.search(here.papers, here.hands);
        return p == NONE ? finding.most : finding.handOf(p, here.papers);
    }

    public int forged(int p, int what) {
        if (!here.hasPaper(p)) {
            return UNKNOWN;
        }
        if (what < 0 || what > 1) {
            return OUTSIDE;
        }
        int length = archive.countOf(p);
        int passes = 0;
        int caught = 0;
        for (int l = 0; l < length; l++) {
            if (archive.isForged(p, l)) {
                if (archive.looksAsBy(here, p, l, archive.writerOf(p, l))) {
                    passes++;
                } else {
                    caught |= 1 << l;
                }
            }
        }
        return what == 0 ? passes : caught;
    }

    public int air(int h, int t, int i) {
        if (!here.hasHand(h)) {
            return UNKNOWN;
        }
        return isHour(t) ? here.hoursOfLook(h, here.lookAt(h, t), i) : OUTSIDE;
    }

    public int rain(int day) {
        if (day < 0 || day >= DAYS) {
            return OUTSIDE;
        }
        if (!here.told) {
            return NOT;
        }
        int set = 0;
        for (int number = 0; number < RAIN_NUMBERS; number++) {
            if (archive.fitsRain(here, day, number)) {
                set |= 1 << number;
            }
        }
        return set;
    }

    // ---- measured, books, images

    public int measure(int p, int l) {
        if (!here.hasPaper(p) || !archive.hasLetter(p, l)) {
            return UNKNOWN;
        }
        measured[p] |= 1 << l;
        return Integer.bitCount(measured[p]);
    }

    public int write(int p, int l, int look) {
        if (!here.hasPaper(p) || l < 0 || l >= PLACES) {
            return UNKNOWN;
        }
        if (!isLook(look)) {
            return OUTSIDE;
        }
        return book.enter(p, l, look);
    }

    public int judge() {
        return book.firstWrong(here, archive);
    }

    public int tear() {
        int had = book.entries + dropMeasures();
        book.entries = 0;
        return had;
    }

    public int seed(int v) {
        if (v < 0) {
            return OUTSIDE;
        }
        int before = archive.seedNow;
        archive.seedNow = v;
        return before;
    }

    public int keep(int i) {
        if (!isImage(i)) {
            return UNKNOWN;
        }
        Archive image = imageOf(i);
        image.copyFrom(archive);
        image.kept = true;
        deeds.forget();
        return 1;
    }

    public int goBack(int i) {
        if (!isImage(i)) {
            return UNKNOWN;
        }
        Archive image = imageOf(i);
        if (!image.kept) {
            return NOT;
        }
        archive.copyFrom(image);
        deeds.forget();
        return 1;
    }

    // ---- helpers of the face

    private static boolean isHour(int t) {
        return t >= 0 && t < HOURS;
    }

    private static boolean isLook(int look) {
        return look >= 0 && look <= LOOK_MOST;
    }

    private static boolean isImage(int i) {
        return i == 0 || i == 1;
    }

    private Archive imageOf(int i) {
        return i == 0 ? imageZero : imageOne;
    }

    private boolean isMeasured(int p, int l) {
        return (measured[p] >> l & 1) == 1;
    }

    private int ofAllLetters(int p, int what) {
        if (what == 0) {
            return archive.countOf(p);
        }
        return what == 1 ? archive.countForged(p) : OUTSIDE;
    }

    private void append(int p, int h, int t, int air) {
        archive.put(p, h, t, air);
        deeds.noteAdded(p);
    }

    private int dropMeasures() {
        int had = 0;
        for (int p = 0; p < PAPERS_MOST; p++) {
            had += Integer.bitCount(measured[p]);
            measured[p] = 0;
        }
        return had;
    }

    /** What the text tells: the weather, the hands, and how the papers begin. */
    private static final class Valley {
        boolean told;
        int turn;
        int firstDamp;
        int lightHours;
        int rains;
        int hands;
        int papers;
        final int[] rainNumbers = new int[RAINS_MOST];
        final int[] leans = new int[HANDS_MOST];
        final int[] fills = new int[HANDS_MOST];
        final int[] presses = new int[HANDS_MOST];
        final int[] paperHands = new int[PAPERS_MOST];
        final int[] paperHours = new int[PAPERS_MOST];
        final int[] paperLengths = new int[PAPERS_MOST];
        // every search asks for looks over and over, so they are made once a valley
        final int[] looks = new int[HANDS_MOST * HOURS];

        void clear() {
            told = false;
            turn = 0;
            firstDamp = 0;
            lightHours = 0;
            rains = 0;
            hands = 0;
            papers = 0;
        }

        boolean hasHand(int h) {
            return h >= 0 && h < hands;
        }

        boolean hasPaper(int p) {
            return p >= 0 && p < papers;
        }

        int rainOf(int day) {
            return rains < 1 ? 0 : rainNumbers[day % rains];
        }

        int windAt(int t) {
            return turn * t % 8;
        }

        int lightAt(int t) {
            return t % DAY_HOURS < lightHours ? 1 : 0;
        }

        int dampAt(int t, int rainNumber) {
            int dark = Math.max(0, t % DAY_HOURS - lightHours + 1);
            return Math.min(DAMP_MOST, firstDamp + rainNumber + dark);
        }

        int makeLook(int h, int t, int rainNumber) {
            if (!hasHand(h)) {
                return NONE;
            }
            int lean = (leans[h] + windAt(t)) % 9;
            int full = Math.min(15, fills[h] + dampAt(t, rainNumber) / 2);
            int thick = Math.min(9, presses[h] + (lightAt(t) == 1 ? 0 : 2));
            return 1000 * lean + 10 * full + thick;
        }

        void fillLooks() {
            for (int h = 0; h < hands; h++) {
                for (int t = 0; t < HOURS; t++) {
                    looks[h * HOURS + t] = makeLook(h, t, rainOf(t / DAY_HOURS));
                }
            }
        }

        int lookAt(int h, int t) {
            return hasHand(h) && isHour(t) ? looks[h * HOURS + t] : NONE;
        }

        int firstHour(int h, int look, int from) {
            for (int t = from; t < HOURS; t++) {
                if (lookAt(h, t) == look) {
                    return t;
                }
            }
            return NONE;
        }

        /** With i NONE how many hours make the look, else the i-th of them or NONE. */
        int hoursOfLook(int h, int look, int i) {
            int many = 0;
            for (int t = 0; t < HOURS; t++) {
                if (lookAt(h, t) == look) {
                    if (many == i) {
                        return t;
                    }
                    many++;
                }
            }
            return i == NONE ? many : NONE;
        }
    }

    /** The text, and how it is read into a valley up to its first fault. */
    private static final class Reader {
        private static final int END = -1;
        private static final int BLANK = 32;

        final int[] letters = new int[TEXT_MOST];
        int length;
        int at;
        int faultKind;
        int faultAt = NONE;

        int take(int letter) {
            if (length < 0 || length >= TEXT_MOST) {
                return FULL;
            }
            letters[length] = letter;
            length++;
            return length;
        }

        int readInto(Valley valley) {
            at = 0;
            faultKind = NO_FAULT;
            faultAt = NONE;
            skipBlanks();
            // each clause takes a letter at least, so there are never more of them than letters
            for (int clause = 0; clause < TEXT_MOST && at < length && faultKind == NO_FAULT; clause++) {
                readClause(valley);
                skipBlanks();
            }
            length = 0;
            return faultKind;
        }

        private int current() {
            return at >= 0 && at < length && at < TEXT_MOST ? letters[at] : END;
        }

        private void skipBlanks() {
            while (at < length && current() == BLANK) {
                at++;
            }
        }

        private void fail(int kind, int where) {
            // the first fault is the one that counts; what follows it is not read
            if (faultKind == NO_FAULT) {
                faultKind = kind;
                faultAt = where;
            }
        }

        private void readClause(Valley valley) {
            int word = current();
            if (!mayStand(valley, word)) {
                fail(CANNOT_STAND, at);
                return;
            }
            if (isTooMany(valley, word)) {
                fail(TOO_MANY, at);
                return;
            }
            at++;
            switch (word) {
                case 'v': readWeather(valley); break;
                case 'd': readRains(valley); break;
                case 'h': readHand(valley); break;
                default: readPaper(valley); break;
            }
            if (!takeIf(';')) {
                fail(CANNOT_STAND, at);
            }
        }

        private static boolean mayStand(Valley valley, int word) {
            return word == 'v' || valley.told && (word == 'd' || word == 'h' || word == 'p');
        }

        private static boolean isTooMany(Valley valley, int word) {
            switch (word) {
                case 'v': return valley.told;
                case 'd': return valley.rains > 0;
                case 'h': return valley.hands >= HANDS_MOST;
                default: return valley.papers >= PAPERS_MOST;
            }
        }

        private void readWeather(Valley valley) {
            valley.turn = readNumber(0, 7);
            valley.firstDamp = readNumber(0, 9);
            valley.lightHours = readNumber(0, DAY_HOURS);
            valley.told = true;
        }

        private void readRains(Valley valley) {
            int rains = 0;
            boolean more = true;
            while (more && rains < RAINS_MOST) {
                valley.rainNumbers[rains] = readNumber(0, RAIN_NUMBERS - 1);
                rains++;
                more = rains < RAINS_MOST && takeIf(',');
            }
            valley.rains = rains;
        }

        private void readHand(Valley valley) {
            int h = valley.hands;
            if (h < 0 || h >= HANDS_MOST) {
                return;
            }
            valley.leans[h] = readNumber(0, 8);
            valley.fills[h] = readNumber(0, 8);
            valley.presses[h] = readNumber(0, 8);
            valley.hands = h + 1;
        }

        private void readPaper(Valley valley) {
            int p = valley.papers;
            if (p < 0 || p >= PAPERS_MOST) {
                return;
            }
            valley.paperHands[p] = readNumber(0, valley.hands - 1);
            valley.paperHours[p] = readNumber(0, HOURS - 1);
            valley.paperLengths[p] = readNumber(1, PLACES);
            valley.papers = p + 1;
        }

        private int readNumber(int least, int most) {
            if (faultKind != NO_FAULT) {
                return least;
            }
            skipBlanks();
            int start = at;
            int value = 0;
            while (at < length && isFigure(current())) {
                // a number of four figures is a fault whatever its value: three are enough to hold
                value = at - start < 3 ? value * 10 + current() - '0' : value;
                at++;
            }
            if (at == start) {
                fail(CANNOT_STAND, start);
            } else if (at - start > 3 || value < least || value > most) {
                fail(BAD_NUMBER, start);
            }
            return value;
        }

        private static boolean isFigure(int letter) {
            return letter >= '0' && letter <= '9';
        }

        private boolean takeIf(int sign) {
            if (faultKind != NO_FAULT) {
                return false;
            }
            skipBlanks();
            if (current() != sign) {
                return false;
            }
            at++;
            return true;
        }
    }

    /** The papers letter by letter, the bottle and the seed: what an image keeps. */
    private static final class Archive {
        final int[] counts = new int[PAPERS_MOST];
        final int[] hours = new int[PAPERS_MOST * PLACES];
        final int[] writers = new int[PAPERS_MOST * PLACES];
        // the hour of the bottled air a letter was written in; NONE: it is not forged
        final int[] airs = new int[PAPERS_MOST * PLACES];
        int bottled = NONE;
        int seedNow;
        boolean kept;

        void beginAs(Valley valley) {
            bottled = NONE;
            for (int p = 0; p < PAPERS_MOST; p++) {
                counts[p] = 0;
                if (valley.hasPaper(p)) {
                    beginPaper(p, valley.paperHands[p], valley.paperHours[p], valley.paperLengths[p]);
                }
            }
        }

        private void beginPaper(int p, int h, int from, int length) {
            for (int l = 0; l < length && from + l < HOURS; l++) {
                put(p, h, from + l, NONE);
            }
        }

        void copyFrom(Archive other) {
            System.arraycopy(other.counts, 0, counts, 0, PAPERS_MOST);
            System.arraycopy(other.hours, 0, hours, 0, PAPERS_MOST * PLACES);
            System.arraycopy(other.writers, 0, writers, 0, PAPERS_MOST * PLACES);
            System.arraycopy(other.airs, 0, airs, 0, PAPERS_MOST * PLACES);
            bottled = other.bottled;
            seedNow = other.seedNow;
        }

        int countOf(int p) {
            return p >= 0 && p < PAPERS_MOST ? counts[p] : 0;
        }

        int countAll() {
            int all = 0;
            for (int p = 0; p < PAPERS_MOST; p++) {
                all += counts[p];
            }
            return all;
        }

        int countForged(int p) {
            int length = countOf(p);
            int many = 0;
            for (int l = 0; l < length; l++) {
                if (isForged(p, l)) {
                    many++;
                }
            }
            return many;
        }

        boolean isFull(int p) {
            return countOf(p) >= PLACES;
        }

        boolean hasLetter(int p, int l) {
            return p >= 0 && p < PAPERS_MOST && l >= 0 && l < PLACES && l < counts[p];
        }

        int hourOf(int p, int l) {
            return hasLetter(p, l) ? hours[p * PLACES + l] : NONE;
        }

        int writerOf(int p, int l) {
            return hasLetter(p, l) ? writers[p * PLACES + l] : NONE;
        }

        int airOf(int p, int l) {
            return hasLetter(p, l) ? airs[p * PLACES + l] : NONE;
        }

        boolean isForged(int p, int l) {
            return airOf(p, l) != NONE;
        }

        int lookOf(Valley valley, int p, int l) {
            if (!hasLetter(p, l)) {
                return NONE;
            }
            int slot = p * PLACES + l;
            return valley.lookAt(writers[slot], airs[slot] == NONE ? hours[slot] : airs[slot]);
        }

        /** Whether a letter looks as the hand would have made it at the hour told. */
        boolean looksAsBy(Valley valley, int p, int l, int h) {
            return lookOf(valley, p, l) == valley.lookAt(h, hourOf(p, l));
        }

        int countAsBy(Valley valley, int p, int h) {
            int length = countOf(p);
            int many = 0;
            for (int l = 0; l < length; l++) {
                many += looksAsBy(valley, p, l, h) ? 1 : 0;
            }
            return many;
        }

        void put(int p, int h, int t, int air) {
            if (p < 0 || p >= PAPERS_MOST || counts[p] < 0 || counts[p] >= PLACES) {
                return;
            }
            int slot = p * PLACES + counts[p];
            hours[slot] = t;
            writers[slot] = h;
            airs[slot] = air;
            counts[p]++;
        }

        void dropLast(int p) {
            if (countOf(p) > 0) {
                counts[p]--;
            }
        }

        int draw(int n) {
            if (n < 1) {
                return 0;
            }
            seedNow = (int) ((seedNow * 1103515245L + 12345L) % 2147483648L);
            return seedNow / 65536 % n;
        }

        /** How many letters from one on the hand would have made one an hour from t on. */
        int rowFrom(Valley valley, int p, int from, int h, int t) {
            int length = countOf(p);
            int many = 0;
            while (from + many < length && t + many < HOURS
                    && lookOf(valley, p, from + many) == valley.lookAt(h, t + many)) {
                many++;
            }
            return many;
        }

        int longestRow(Valley valley, int p, int from, int h) {
            int longest = 0;
            for (int t = 0; t < HOURS; t++) {
                longest = Math.max(longest, rowFrom(valley, p, from, h, t));
            }
            return longest;
        }

        /** Each part of a row is a row too, so taking the longest each time takes the fewest. */
        int fewestRows(Valley valley, int p, int h) {
            int length = countOf(p);
            int rows = 0;
            int done = 0;
            for (int step = 0; step < PLACES && done < length; step++) {
                int longest = longestRow(valley, p, done, h);
                if (longest < 1) {
                    return NONE;
                }
                done += longest;
                rows++;
            }
            return rows;
        }

        boolean fitsRain(Valley valley, int day, int rainNumber) {
            for (int p = 0; p < PAPERS_MOST; p++) {
                int length = countOf(p);
                for (int l = 0; l < length; l++) {
                    int t = hourOf(p, l);
                    if (t / DAY_HOURS == day && !isForged(p, l)
                            && lookOf(valley, p, l) != valley.makeLook(writerOf(p, l), t, rainNumber)) {
                        return false;
                    }
                }
            }
            return true;
        }
    }

    /** The latest deeds, in a ring so that the oldest makes room for the newest. */
    private static final class Deeds {
        private static final int ADDED = 0;
        private static final int BLOTTED = 1;
        private static final int BOTTLED = 2;

        final int[] kinds = new int[DEEDS_MOST];
        final int[] papers = new int[DEEDS_MOST];
        final int[] writers = new int[DEEDS_MOST];
        final int[] hours = new int[DEEDS_MOST];
        final int[] airs = new int[DEEDS_MOST];
        int newest = DEEDS_MOST - 1;
        int count;

        void forget() {
            count = 0;
        }

        private void begin(int kind) {
            newest = newest < 0 || newest >= DEEDS_MOST - 1 ? 0 : newest + 1;
            kinds[newest] = kind;
            count = Math.min(DEEDS_MOST, count + 1);
        }

        void noteAdded(int p) {
            begin(ADDED);
            papers[newest] = p;
        }

        void noteBlotted(int p, int h, int t, int air) {
            begin(BLOTTED);
            papers[newest] = p;
            writers[newest] = h;
            hours[newest] = t;
            airs[newest] = air;
        }

        void noteBottled(int before) {
            begin(BOTTLED);
            airs[newest] = before;
        }

        void takeBackLast(Archive archive) {
            if (count < 1 || newest < 0 || newest >= DEEDS_MOST) {
                return;
            }
            switch (kinds[newest]) {
                case ADDED:
                    archive.dropLast(papers[newest]);
                    break;
                case BLOTTED:
                    archive.put(papers[newest], writers[newest], hours[newest], airs[newest]);
                    break;
                default:
                    archive.bottled = airs[newest];
                    break;
            }
            newest = newest == 0 ? DEEDS_MOST - 1 : newest - 1;
            count--;
        }
    }

    /** Told looks of letters, to be judged by what the papers show. */
    private static final class Book {
        final int[] papers = new int[BOOK_MOST];
        final int[] places = new int[BOOK_MOST];
        final int[] looks = new int[BOOK_MOST];
        int entries;

        int enter(int p, int l, int look) {
            if (entries < 0 || entries >= BOOK_MOST) {
                return FULL;
            }
            papers[entries] = p;
            places[entries] = l;
            looks[entries] = look;
            entries++;
            return entries;
        }

        int firstWrong(Valley valley, Archive archive) {
            for (int e = 0; e < entries && e < BOOK_MOST; e++) {
                int p = papers[e];
                int l = places[e];
                if (!archive.hasLetter(p, l) || archive.lookOf(valley, p, l) != looks[e]) {
                    return e;
                }
            }
            return NONE;
        }
    }

    /** The hands and hours from which a paper could begin, by what was measured of it. */
    private static final class Beginnings {
        // leans 0 to 8, fulls 0 to 15, thicknesses 0 to 9
        private static final int KINDS_OF_LOOK = 9 * 16 * 10;

        final int[] writers = new int[HANDS_MOST * HOURS];
        final int[] starts = new int[HANDS_MOST * HOURS];
        final int[] kinds = new int[HANDS_MOST * HOURS];
        final int[] alike = new int[KINDS_OF_LOOK];
        int count;

        void gather(Valley valley, Archive archive, int p, int places) {
            count = 0;
            int length = archive.countOf(p);
            for (int h = 0; h < valley.hands; h++) {
                for (int t = 0; t < HOURS && t + length <= HOURS; t++) {
                    if (count < HANDS_MOST * HOURS && fits(valley, archive, p, places, h, t)) {
                        writers[count] = h;
                        starts[count] = t;
                        count++;
                    }
                }
            }
        }

        private static boolean fits(Valley valley, Archive archive, int p, int places, int h, int t) {
            int length = archive.countOf(p);
            for (int l = 0; l < length; l++) {
                if ((places >> l & 1) == 1 && archive.lookOf(valley, p, l) != valley.lookAt(h, t + l)) {
                    return false;
                }
            }
            return true;
        }

        int bestLetter(Valley valley, int length) {
            int best = NONE;
            int least = count;
            for (int l = 0; l < length; l++) {
                int greatest = greatestPart(valley, l);
                if (greatest < least) {
                    least = greatest;
                    best = l;
                }
            }
            return best;
        }

        private int greatestPart(Valley valley, int l) {
            // only the counters in use are set back: far fewer than there are kinds
            for (int b = 0; b < count; b++) {
                kinds[b] = kindOfLook(valley.lookAt(writers[b], starts[b] + l));
                alike[kinds[b]] = 0;
            }
            int greatest = 0;
            for (int b = 0; b < count; b++) {
                int many = alike[kinds[b]] + 1;
                alike[kinds[b]] = many;
                greatest = Math.max(greatest, many);
            }
            return greatest;
        }

        private static int kindOfLook(int look) {
            int kind = (look / 1000 * 16 + look % 1000 / 10) * 10 + look % 10;
            return kind < 0 || kind >= KINDS_OF_LOOK ? 0 : kind;
        }
    }

    /** Which hand wrote which paper, each paper by another hand. */
    private static final class Finding {
        // how many letters of a paper are as a hand would have written them at their hours
        final int[] likenesses = new int[PAPERS_MOST * HANDS_MOST];
        int most;
        int bestCode;

        void compare(Valley valley, Archive archive) {
            for (int p = 0; p < valley.papers; p++) {
                for (int h = 0; h < valley.hands; h++) {
                    likenesses[p * HANDS_MOST + h] = archive.countAsBy(valley, p, h);
                }
            }
        }

        /** A code has two bits a paper, the first paper's highest, so that codes come in the order asked for. */
        void search(int papers, int hands) {
            most = NONE;
            bestCode = 0;
            int codes = 1 << 2 * Math.min(PAPERS_MOST, papers);
            for (int code = 0; code < codes; code++) {
                int many = likenessOf(code, papers, hands);
                if (many > most) {
                    most = many;
                    bestCode = code;
                }
            }
        }

        int handOf(int p, int papers) {
            return handIn(bestCode, p, papers);
        }

        private static int handIn(int code, int p, int papers) {
            return code >> 2 * (papers - 1 - p) & 3;
        }

        /** NONE if a hand is not there or has two papers. */
        private int likenessOf(int code, int papers, int hands) {
            int used = 0;
            int many = 0;
            for (int p = 0; p < papers; p++) {
                int h = handIn(code, p, papers);
                if (h >= hands || (used >> h & 1) == 1) {
                    return NONE;
                }
                used |= 1 << h;
                many += likenesses[p * HANDS_MOST + h];
            }
            return many;
        }
    }
}

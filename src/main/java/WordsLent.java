/**
 * A language whose words must be paid back, in use, before one dies.
 * The words in capitals are those of the document, ../shared/DOC.md.
 */
public final class WordsLent {
    public static final int NONE = -1, BAD = -2, NOT = -3, FULL = -4;

    private static final int PEOPLE = 0, WORDS = 1, MEETINGS = 2, TEXTS = 3;
    private static final int DAYS = 24, LAST_DAY = 23;
    private static final int MOST_PEOPLE = 8, MOST_WORDS = 12, MOST_MEETINGS = 12;
    private static final int MOST_ECHOES = 8, MOST_COUNTED = 8, MOST_USES = 9;
    private static final int ORPHAN = 1, MISER = 2, PREACHER = 3, SORTS = 4;
    private static final int OPEN = 0, PAID = 1, PRAYER = 2, LOST = 3, VOID = 4;
    private static final int NULL = 1, INDEX = 2, CAST = 3, STORE = 4, SIZE = 5;
    private static final int SHEETS = 4, FORMS = 3, BYTES = 0, SHORTS = 1, MOST_ITEMS = 60;
    private static final int LEAST_INT = 1 << 31;
    private static final long LEAST_LONG = 1L << 63;

    private static final int[] DIGEST_DAYS = {0, 6, 13, 23};

    private final Text[] texts = new Text[TEXTS];
    private final Echoes echoes = new Echoes();
    private final Counted counted = new Counted();
    private final Sheet[] sheets = new Sheet[SHEETS];
    private final Told told = new Told();
    private final Course course = new Course();
    private final Told trial = new Told();
    private final Course tried = new Course();
    private final int[] alike = new int[DAYS * (MOST_USES + 1)];
    private final int[] paidBy = new int[MOST_WORDS * (MOST_ECHOES + 1)];
    private boolean courseIsKnown;
    private boolean oddsAreKnown;
    private int latestFinding;

    public WordsLent() {
        for (int i = 0; i < TEXTS; i++) {
            texts[i] = new Text(i);
        }
        for (int i = 0; i < SHEETS; i++) {
            sheets[i] = new Sheet();
        }
    }

    // ---- people, words, meetings, echoes

    public int type(int text, int b) {
        if (isOutside(text, TEXTS) || isOutside(b, 256)) {
            return BAD;
        }
        if (texts[text].isFull()) {
            return FULL;
        }
        texts[text].append(b);
        tellAgain(text);
        return texts[text].size();
    }

    public int wipe(int text) {
        if (isOutside(text, TEXTS)) {
            return BAD;
        }
        int had = texts[text].size();
        texts[text].cutTo(0);
        tellAgain(text);
        return had;
    }

    public int undo(int text) {
        if (isOutside(text, TEXTS)) {
            return BAD;
        }
        int had = texts[text].size();
        if (had == 0) {
            return NOT;
        }
        texts[text].cutTo(had - 1);
        tellAgain(text);
        return had - 1;
    }

    public int fault(int text) {
        return isOutside(text, TEXTS) ? BAD : texts[text].faultPlace();
    }

    public int person(int person, int what) {
        if (isOutside(person, told.people) || isOutside(what, 2)) {
            return BAD;
        }
        return what == 0 ? told.sorts[person] : told.dies[person];
    }

    public int word(int word, int what) {
        if (isOutside(word, told.words) || isOutside(what, 3)) {
            return BAD;
        }
        if (what == 0) {
            return told.lenders[word];
        }
        return what == 1 ? told.debtors[word] : told.uses[word];
    }

    public int meeting(int i, int what) {
        if (isOutside(i, MOST_MEETINGS) || isOutside(what, 3)) {
            return BAD;
        }
        if (i >= told.meetings) {
            return NONE;
        }
        if (what == 0) {
            return told.days[i];
        }
        return what == 1 ? told.firsts[i] : told.others[i];
    }

    public int echo(int day, int person) {
        if (!Echoes.mayBe(day, person)) {
            return BAD;
        }
        if (echoes.isFull()) {
            return FULL;
        }
        echoes.append(day, person);
        courseChanged();
        return echoes.held;
    }

    public int back() {
        if (echoes.held == 0) {
            return NOT;
        }
        echoes.held--;
        courseChanged();
        return echoes.held;
    }

    public int read(int s) {
        if (isOutside(s, SHEETS)) {
            return BAD;
        }
        Sheet sheet = sheets[s];
        if (sheet.isLost()) {
            return finding(NULL);
        }
        int came = 0;
        for (int i = 0; i + 1 < sheet.size; i += 2) {
            if (echoes.isFull() || !Echoes.mayBe(sheet.items[i], sheet.items[i + 1])) {
                break;
            }
            echoes.append(sheet.items[i], sheet.items[i + 1]);
            came++;
        }
        courseChanged();
        return came;
    }

    // ---- days

    public int stands(int day, int word, int what) {
        if (isOutside(day, DAYS) || isOutside(word, told.words) || isOutside(what, 2)) {
            return BAD;
        }
        learnCourse();
        return what == 0 ? course.stateBehind(day, word) : course.leftBehind(day, word);
    }

    public int at(int day, int person, int what) {
        if (isOutside(day, DAYS) || isOutside(person, told.people) || isOutside(what, 4)) {
            return BAD;
        }
        learnCourse();
        if (what == 0) {
            return told.dies[person] <= day ? 1 : 0;
        }
        if (what == 1) {
            return course.openUses(day, told.debtors, person);
        }
        return what == 2 ? course.openUses(day, told.lenders, person) : course.saidBehind(day, person);
    }

    public int clear(int person) {
        if (isOutside(person, told.people)) {
            return BAD;
        }
        learnCourse();
        for (int day = 0; day < DAYS; day++) {
            if (course.owesNothing(told, day, person)) {
                return day;
            }
        }
        return NONE;
    }

    public int bank(int day) {
        if (isOutside(day, DAYS)) {
            return BAD;
        }
        learnCourse();
        int best = NONE;
        int most = 0;
        for (int person = 0; person < told.people; person++) {
            int owed = course.openUses(day, told.lenders, person);
            if (owed > most) {
                most = owed;
                best = person;
            }
        }
        return best;
    }

    public int ring(int day, int what) {
        if (isOutside(day, DAYS) || isOutside(what, 2)) {
            return BAD;
        }
        learnCourse();
        course.followDebts(told, day);
        int least = NONE;
        int fewest = MOST_PEOPLE + 1;
        for (int person = 0; person < told.people; person++) {
            int steps = course.stepsAround(person);
            if (steps != NONE && steps < fewest) {
                fewest = steps;
                least = person;
            }
        }
        return least == NONE || what == 1 ? least : fewest;
    }

    public int silent() {
        learnCourse();
        int bits = 0;
        for (int person = 0; person < told.people; person++) {
            if (course.saidBehind(LAST_DAY, person) == 0) {
                bits |= 1 << person;
            }
        }
        return bits;
    }

    // ---- plans

    public int meet(int day, int what) {
        if (isOutside(day, DAYS) || isOutside(what, 3)) {
            return BAD;
        }
        trial.becomeLike(told);
        int bestFirst = NONE;
        int bestOther = NONE;
        int fewest = NONE;
        for (int first = 0; first < trial.people; first++) {
            for (int other = first + 1; other < trial.people; other++) {
                trial.meetings = told.meetings;
                trial.addMeeting(day, first, other);
                tried.run(trial, echoes, echoes.all());
                int owed = tried.openOrLostUses();
                if (fewest == NONE || owed < fewest) {
                    fewest = owed;
                    bestFirst = first;
                    bestOther = other;
                }
            }
        }
        if (what == 0) {
            return bestFirst;
        }
        return what == 1 ? bestOther : fewest;
    }

    public int live(int person) {
        if (isOutside(person, told.people)) {
            return BAD;
        }
        trial.becomeLike(told);
        for (int day = 0; day < DAYS; day++) {
            trial.dies[person] = day;
            tried.run(trial, echoes, echoes.all());
            if (!tried.hasLost(trial, LAST_DAY, person)) {
                return day;
            }
        }
        return NONE;
    }

    public int voice(int what) {
        if (isOutside(what, 2)) {
            return BAD;
        }
        trial.becomeLike(told);
        int best = NONE;
        int most = NONE;
        for (int person = 0; person < trial.people; person++) {
            trial.sorts[person] = PREACHER;
            tried.run(trial, echoes, echoes.all());
            int paid = tried.wordsThatAre(PAID);
            if (paid > most) {
                most = paid;
                best = person;
            }
            trial.sorts[person] = told.sorts[person];
        }
        return what == 0 ? best : most;
    }

    public int spare(int i) {
        if (i < NONE || i > 1) {
            return BAD;
        }
        int bits = sparedEchoes();
        if (bits == NONE) {
            return NONE;
        }
        if (i == NONE) {
            return Integer.bitCount(bits);
        }
        return lowestBit(i == 0 ? bits : bits & (bits - 1));
    }

    // ---- counted, chance, lives

    public int tally(int day, int word, int uses) {
        if (isOutside(day, DAYS) || isOutside(word, MOST_WORDS) || isOutside(uses, MOST_USES + 1)) {
            return BAD;
        }
        if (counted.held == MOST_COUNTED) {
            return FULL;
        }
        counted.append(day, word, uses);
        return counted.held;
    }

    public int forget() {
        int had = counted.held;
        counted.held = 0;
        return had;
    }

    public int never() {
        int bits = 0;
        for (int i = 0; i < echoes.held; i++) {
            tried.run(told, echoes, echoes.all() & ~(1 << i));
            if (counted.comesOut(tried)) {
                bits |= 1 << i;
            }
        }
        return bits;
    }

    public int sort(int person) {
        if (isOutside(person, told.people)) {
            return BAD;
        }
        trial.becomeLike(told);
        int bits = 0;
        for (int sort = 0; sort < SORTS; sort++) {
            trial.sorts[person] = sort;
            tried.run(trial, echoes, echoes.all());
            if (counted.comesOut(tried)) {
                bits |= 1 << sort;
            }
        }
        return bits;
    }

    public int lent(int word) {
        if (isOutside(word, told.words)) {
            return BAD;
        }
        trial.becomeLike(told);
        int bits = 0;
        for (int uses = 1; uses <= MOST_USES; uses++) {
            trial.uses[word] = uses;
            tried.run(trial, echoes, echoes.all());
            if (counted.comesOut(tried)) {
                bits |= 1 << uses;
            }
        }
        return bits;
    }

    public int ask(int word) {
        if (isOutside(word, told.words)) {
            return BAD;
        }
        sortByWhatIsLeft(word);
        int best = 0;
        int fewest = mostAlike(0);
        for (int day = 1; day < DAYS; day++) {
            int most = mostAlike(day);
            if (most < fewest) {
                fewest = most;
                best = day;
            }
        }
        return best;
    }

    public long chance(int c, int word, int what) {
        if (isOutside(c, 17) || isOutside(word, told.words) || isOutside(what, 2)) {
            return LEAST_LONG - BAD;
        }
        learnOdds();
        int bits = 4 * echoes.held;
        long above = 0;
        for (int there = 0; there <= echoes.held; there++) {
            long ways = paidBy[word * (MOST_ECHOES + 1) + there];
            above += ways * power(c, there) * power(16 - c, echoes.held - there);
        }
        long below = 1L << bits;
        // What stands below is a power of 2, so that halving both is all there is to lowest terms.
        for (int i = 0; i < bits && (above & 1) == 0; i++) {
            above >>= 1;
            below >>= 1;
        }
        return what == 0 ? above : below;
    }

    public int lives(int seed, int n, int what) {
        if (isOutside(n, MOST_MEETINGS + 1) || isOutside(what, 2)) {
            return BAD;
        }
        trial.becomeLike(told);
        trial.drawMeetings(seed, n);
        tried.run(trial, echoes, echoes.all());
        return tried.wordsThatAre(what == 0 ? PAID : LOST);
    }

    // ---- sheets

    public int sheet(int s, int form, int n) {
        if (isOutside(s, SHEETS) || isOutside(form, FORMS) || n > MOST_ITEMS) {
            return BAD;
        }
        if (n < 0) {
            return finding(SIZE);
        }
        sheets[s].begin(form, n);
        return n;
    }

    public int lose(int s) {
        if (isOutside(s, SHEETS)) {
            return BAD;
        }
        if (sheets[s].isLost()) {
            return finding(NULL);
        }
        int had = sheets[s].size;
        sheets[s].begin(NONE, 0);
        return had;
    }

    public int lay(int s, int form, int i, int v) {
        if (isOutside(s, SHEETS) || isOutside(form, FORMS)) {
            return BAD;
        }
        int found = whatIsAmiss(sheets[s], form, i);
        if (found != 0) {
            return finding(found);
        }
        sheets[s].put(i, v);
        return 1;
    }

    public int get(int s, int form, int i) {
        if (isOutside(s, SHEETS) || isOutside(form, FORMS)) {
            return LEAST_INT;
        }
        int found = whatIsAmiss(sheets[s], form, i);
        if (found != 0) {
            finding(found);
            return LEAST_INT;
        }
        return sheets[s].items[i];
    }

    public int copy(int s, int i, int t, int j, int n) {
        if (isOutside(s, SHEETS) || isOutside(t, SHEETS)) {
            return BAD;
        }
        Sheet from = sheets[s];
        Sheet to = sheets[t];
        if (from.isLost() || to.isLost()) {
            return finding(NULL);
        }
        if (from.form != to.form) {
            return finding(STORE);
        }
        if (!from.hasItems(i, n) || !to.hasItems(j, n)) {
            return finding(INDEX);
        }
        System.arraycopy(from.items, i, to.items, j, n);
        return 1;
    }

    public int write(int word, int s) {
        if (isOutside(word, told.words) || isOutside(s, SHEETS)) {
            return BAD;
        }
        Sheet sheet = sheets[s];
        if (sheet.isLost()) {
            return finding(NULL);
        }
        learnCourse();
        int written = Math.min(sheet.size, DAYS);
        for (int day = 0; day < written; day++) {
            sheet.put(day, course.leftBehind(day, word));
        }
        return written;
    }

    public int count(int what) {
        if (isOutside(what, 9)) {
            return BAD;
        }
        switch (what) {
            case 0:
                return told.people;
            case 1:
                return told.words;
            case 2:
                return told.meetings;
            case 6:
                return echoes.held;
            case 7:
                return counted.held;
            case 8:
                return latestFinding;
            default:
                return texts[what - 3].size();
        }
    }

    public long digest() {
        long h = 17;
        for (int what = 0; what < 8; what++) {
            h = 31 * h + count(what);
        }
        for (int text = 0; text < TEXTS; text++) {
            h = 31 * h + fault(text);
        }
        for (int i = 0; i < MOST_MEETINGS; i++) {
            for (int what = 0; what < 3; what++) {
                h = 31 * h + meeting(i, what);
            }
        }
        for (int word = 0; word < told.words; word++) {
            h = digestWord(h, word);
        }
        for (int person = 0; person < told.people; person++) {
            h = digestPerson(h, person);
        }
        for (int day = 0; day < DAYS; day++) {
            h = 31 * h + bank(day);
            h = 31 * h + ring(day, 0);
            h = 31 * h + ring(day, 1);
        }
        h = 31 * h + silent();
        for (int what = 0; what < 3; what++) {
            h = 31 * h + meet(8, what);
        }
        h = 31 * h + voice(0);
        h = 31 * h + voice(1);
        h = 31 * h + spare(NONE);
        h = 31 * h + spare(0);
        h = 31 * h + never();
        h = 31 * h + lives(7, 9, 0);
        return 31 * h + lives(7, 9, 1);
    }

    private long digestWord(long before, int word) {
        long h = before;
        for (int what = 0; what < 3; what++) {
            h = 31 * h + word(word, what);
        }
        for (int day : DIGEST_DAYS) {
            h = 31 * h + stands(day, word, 0);
            h = 31 * h + stands(day, word, 1);
        }
        h = 31 * h + lent(word);
        h = 31 * h + ask(word);
        h = 31 * h + chance(5, word, 0);
        return 31 * h + chance(5, word, 1);
    }

    private long digestPerson(long before, int person) {
        long h = 31 * before + person(person, 0);
        h = 31 * h + person(person, 1);
        for (int what = 0; what < 4; what++) {
            h = 31 * h + at(6, person, what);
        }
        for (int what = 0; what < 4; what++) {
            h = 31 * h + at(LAST_DAY, person, what);
        }
        h = 31 * h + clear(person);
        h = 31 * h + live(person);
        return 31 * h + sort(person);
    }

    // ---- what is known, and what has to be found out anew

    private void tellAgain(int text) {
        if (text == PEOPLE) {
            told.readPeople(texts[PEOPLE]);
        } else if (text == WORDS) {
            told.readWords(texts[WORDS]);
        } else {
            told.readMeetings(texts[MEETINGS]);
        }
        courseChanged();
    }

    private void courseChanged() {
        courseIsKnown = false;
        oddsAreKnown = false;
    }

    private void learnCourse() {
        if (!courseIsKnown) {
            course.run(told, echoes, echoes.all());
            courseIsKnown = true;
        }
    }

    /** In how many of the sets of so many ECHOES each WORD is PAID: it does not hang on c, so it is kept. */
    private void learnOdds() {
        if (oddsAreKnown) {
            return;
        }
        for (int i = 0; i < paidBy.length; i++) {
            paidBy[i] = 0;
        }
        for (int there = 0; there <= echoes.all(); there++) {
            tried.run(told, echoes, there);
            int size = Integer.bitCount(there);
            for (int word = 0; word < told.words; word++) {
                if (tried.stateBehind(LAST_DAY, word) == PAID) {
                    paidBy[word * (MOST_ECHOES + 1) + size]++;
                }
            }
        }
        oddsAreKnown = true;
    }

    /** The ECHOES of SPARE as bits: of a row in which each is more than the one ahead they tell all. */
    private int sparedEchoes() {
        if (losesNothingWithout(0)) {
            return 0;
        }
        for (int i = 0; i < echoes.held; i++) {
            if (losesNothingWithout(1 << i)) {
                return 1 << i;
            }
        }
        for (int i = 0; i < echoes.held; i++) {
            for (int j = i + 1; j < echoes.held; j++) {
                if (losesNothingWithout(1 << i | 1 << j)) {
                    return 1 << i | 1 << j;
                }
            }
        }
        return NONE;
    }

    private boolean losesNothingWithout(int spared) {
        tried.run(told, echoes, echoes.all() & ~spared);
        return tried.wordsThatAre(LOST) == 0;
    }

    /** How many of the answers of LENT leave a WORD for so many USES, behind each DAY. */
    private void sortByWhatIsLeft(int word) {
        for (int i = 0; i < alike.length; i++) {
            alike[i] = 0;
        }
        trial.becomeLike(told);
        for (int uses = 1; uses <= MOST_USES; uses++) {
            trial.uses[word] = uses;
            tried.run(trial, echoes, echoes.all());
            if (counted.comesOut(tried)) {
                for (int day = 0; day < DAYS; day++) {
                    int left = tried.leftBehind(day, word);
                    if (!isOutside(left, MOST_USES + 1)) {
                        alike[day * (MOST_USES + 1) + left]++;
                    }
                }
            }
        }
    }

    private int mostAlike(int day) {
        int most = 0;
        for (int left = 0; left <= MOST_USES; left++) {
            most = Math.max(most, alike[day * (MOST_USES + 1) + left]);
        }
        return most;
    }

    private int finding(int number) {
        latestFinding = number;
        return -10 - number;
    }

    /** The FINDING of an item treated as of a FORM; 0 if there is none. */
    private static int whatIsAmiss(Sheet sheet, int form, int i) {
        if (sheet.isLost()) {
            return NULL;
        }
        if (sheet.form != form) {
            return CAST;
        }
        return isOutside(i, sheet.size) ? INDEX : 0;
    }

    private static boolean isOutside(int number, int bound) {
        return number < 0 || number >= bound;
    }

    private static int lowestBit(int bits) {
        for (int i = 0; i < 32; i++) {
            if ((bits >> i & 1) != 0) {
                return i;
            }
        }
        return NONE;
    }

    private static long power(long base, int exponent) {
        long product = 1;
        for (int i = 0; i < exponent; i++) {
            product *= base;
        }
        return product;
    }

    /** One of the three texts, as typed. */
    private static final class Text {
        private final int kind;
        private final int span;
        // What each byte tells where it stands, NONE if it cannot stand there. The row is just as long
        // as 8 PEOPLE, 12 WORDS or MEETINGS are, so that a ninth, a thirteenth never begins.
        private final int[] meanings;
        private int length;
        private int firstWrong = NONE;

        Text(int kind) {
            this.kind = kind;
            this.span = kind == PEOPLE ? 3 : 4;
            this.meanings = new int[kind == PEOPLE ? 23 : 47];
        }

        int size() {
            return length;
        }

        boolean isFull() {
            return length >= meanings.length;
        }

        void append(int b) {
            if (isFull()) {
                return;
            }
            meanings[length] = meaning(length % span, b);
            if (firstWrong == NONE && meanings[length] == NONE) {
                firstWrong = length;
            }
            length++;
        }

        void cutTo(int shorter) {
            if (shorter < 0 || shorter > length) {
                return;
            }
            length = shorter;
            if (firstWrong >= length) {
                firstWrong = NONE;
            }
        }

        int faultPlace() {
            if (firstWrong != NONE) {
                return firstWrong;
            }
            return length == 0 || length % span == span - 1 ? NONE : length;
        }

        /** How many PEOPLE, WORDS or MEETINGS: none with a FAULT. */
        int things() {
            return faultPlace() == NONE ? (length + 1) / span : 0;
        }

        int valueOf(int thing, int part) {
            int place = thing * span + part;
            return isOutside(place, length) ? NONE : meanings[place];
        }

        /** What a byte tells as that part of a thing; NONE if it cannot stand there. */
        private int meaning(int part, int b) {
            if (part == span - 1) {
                return b == ';' ? 0 : NONE;
            }
            if (kind == PEOPLE) {
                return part == 0 ? sortOf(b) : within(b, 'a', 'x', 'a');
            }
            if (kind == WORDS) {
                return within(b, part == 2 ? '1' : '0', part == 2 ? '9' : '7', '0');
            }
            return part == 0 ? within(b, 'a', 'x', 'a') : within(b, '0', '7', '0');
        }

        private static int sortOf(int b) {
            switch (b) {
                case 'p':
                    return 0;
                case 'o':
                    return ORPHAN;
                case 'm':
                    return MISER;
                case 'b':
                    return PREACHER;
                default:
                    return NONE;
            }
        }

        private static int within(int b, int low, int high, int zero) {
            return b < low || b > high ? NONE : b - zero;
        }
    }

    /** PEOPLE, WORDS and MEETINGS: as told, or otherwise for a trial. */
    private static final class Told {
        private int people;
        private final int[] sorts = new int[MOST_PEOPLE];
        private final int[] dies = new int[MOST_PEOPLE];
        private int words;
        private final int[] lenders = new int[MOST_WORDS];
        private final int[] debtors = new int[MOST_WORDS];
        private final int[] uses = new int[MOST_WORDS];
        // One MEETING more than may be told: MEET has one behind all others, whatever room.
        private int meetings;
        private final int[] days = new int[MOST_MEETINGS + 1];
        private final int[] firsts = new int[MOST_MEETINGS + 1];
        private final int[] others = new int[MOST_MEETINGS + 1];

        void readPeople(Text text) {
            people = Math.min(text.things(), MOST_PEOPLE);
            for (int i = 0; i < people; i++) {
                sorts[i] = text.valueOf(i, 0);
                dies[i] = text.valueOf(i, 1);
            }
        }

        void readWords(Text text) {
            words = Math.min(text.things(), MOST_WORDS);
            for (int i = 0; i < words; i++) {
                lenders[i] = text.valueOf(i, 0);
                debtors[i] = text.valueOf(i, 1);
                uses[i] = text.valueOf(i, 2);
            }
        }

        void readMeetings(Text text) {
            int told = Math.min(text.things(), MOST_MEETINGS);
            meetings = 0;
            for (int i = 0; i < told; i++) {
                addMeeting(text.valueOf(i, 0), text.valueOf(i, 1), text.valueOf(i, 2));
            }
        }

        void addMeeting(int day, int first, int other) {
            if (meetings < days.length) {
                days[meetings] = day;
                firsts[meetings] = first;
                others[meetings] = other;
                meetings++;
            }
        }

        /** MEETINGS by LOTS, in place of those that are here. */
        void drawMeetings(int seed, int n) {
            meetings = 0;
            int lot = seed;
            for (int i = 0; i < n && people > 0; i++) {
                lot = nextSeed(lot);
                int day = (lot >>> 16) % DAYS;
                lot = nextSeed(lot);
                int first = (lot >>> 16) % people;
                lot = nextSeed(lot);
                addMeeting(day, first, (lot >>> 16) % people);
            }
        }

        private static int nextSeed(int seed) {
            return 1103515245 * seed + 12345;
        }

        void becomeLike(Told model) {
            people = model.people;
            System.arraycopy(model.sorts, 0, sorts, 0, people);
            System.arraycopy(model.dies, 0, dies, 0, people);
            words = model.words;
            System.arraycopy(model.lenders, 0, lenders, 0, words);
            System.arraycopy(model.debtors, 0, debtors, 0, words);
            System.arraycopy(model.uses, 0, uses, 0, words);
            meetings = model.meetings;
            System.arraycopy(model.days, 0, days, 0, meetings);
            System.arraycopy(model.firsts, 0, firsts, 0, meetings);
            System.arraycopy(model.others, 0, others, 0, meetings);
        }

        boolean areTwo(int one, int another) {
            return one != another && one >= 0 && one < people && another >= 0 && another < people;
        }
    }

    private static final class Echoes {
        private final int[] days = new int[MOST_ECHOES];
        private final int[] speakers = new int[MOST_ECHOES];
        private int held;

        static boolean mayBe(int day, int person) {
            return !isOutside(day, DAYS) && !isOutside(person, MOST_PEOPLE);
        }

        boolean isFull() {
            return held >= MOST_ECHOES;
        }

        void append(int day, int person) {
            if (!isFull()) {
                days[held] = day;
                speakers[held] = person;
                held++;
            }
        }

        /** All that there are, as bits. */
        int all() {
            return (1 << held) - 1;
        }
    }

    private static final class Counted {
        private final int[] days = new int[MOST_COUNTED];
        private final int[] whichWords = new int[MOST_COUNTED];
        private final int[] lefts = new int[MOST_COUNTED];
        private int held;

        void append(int day, int word, int left) {
            if (held < MOST_COUNTED) {
                days[held] = day;
                whichWords[held] = word;
                lefts[held] = left;
                held++;
            }
        }

        boolean comesOut(Course course) {
            for (int i = 0; i < held; i++) {
                if (course.leftBehind(days[i], whichWords[i]) != lefts[i]) {
                    return false;
                }
            }
            return true;
        }
    }

    /** A row of items; of no FORM while it is LOST. */
    private static final class Sheet {
        private final int[] items = new int[MOST_ITEMS];
        private int form = NONE;
        private int size;

        boolean isLost() {
            return form == NONE;
        }

        void begin(int newForm, int n) {
            form = newForm;
            size = n;
            for (int i = 0; i < MOST_ITEMS; i++) {
                items[i] = 0;
            }
        }

        void put(int i, int v) {
            if (isOutside(i, size)) {
                return;
            }
            if (form == BYTES) {
                items[i] = (byte) v;
            } else if (form == SHORTS) {
                items[i] = (short) v;
            } else {
                items[i] = v;
            }
        }

        boolean hasItems(int from, int n) {
            return from >= 0 && n >= 0 && from <= size && n <= size - from;
        }
    }

    /** What becomes of the WORDS, DAY by DAY. */
    private static final class Course {
        private int words;
        private final int[] state = new int[MOST_WORDS];
        private final int[] left = new int[MOST_WORDS];
        private final int[] said = new int[MOST_PEOPLE];
        private final int[] occasions = new int[MOST_PEOPLE];
        private int dead;
        // Found once for each DAY, since on most DAYS of a run there is nothing to be done.
        private final int[] echoing = new int[DAYS];
        private final int[] dying = new int[DAYS];
        private final int[] firstMeeting = new int[DAYS];
        private final int[] nextMeeting = new int[MOST_MEETINGS + 1];
        private final int[] states = new int[DAYS * MOST_WORDS];
        private final int[] lefts = new int[DAYS * MOST_WORDS];
        private final int[] saids = new int[DAYS * MOST_PEOPLE];
        private final int[] owesTo = new int[MOST_PEOPLE];

        /** With those of the ECHOES alone whose bits are set. */
        void run(Told told, Echoes echoes, int there) {
            beginWords(told);
            beginPeople(told);
            beginDays(told, echoes, there);
            for (int day = 0; day < DAYS; day++) {
                if (day == 6 || day == 13 || day == 20) {
                    growDebts(told);
                }
                holdMeetings(told, day);
                if (dying[day] != 0) {
                    bury(told, day);
                }
                System.arraycopy(state, 0, states, day * MOST_WORDS, words);
                System.arraycopy(left, 0, lefts, day * MOST_WORDS, words);
                System.arraycopy(said, 0, saids, day * MOST_PEOPLE, told.people);
            }
        }

        private void beginWords(Told told) {
            words = told.words;
            for (int word = 0; word < words; word++) {
                state[word] = told.areTwo(told.lenders[word], told.debtors[word]) ? OPEN : VOID;
                left[word] = told.uses[word];
            }
        }

        private void beginPeople(Told told) {
            dead = 0;
            for (int person = 0; person < told.people; person++) {
                said[person] = 0;
                occasions[person] = 0;
            }
        }

        private void beginDays(Told told, Echoes echoes, int there) {
            for (int day = 0; day < DAYS; day++) {
                echoing[day] = 0;
                dying[day] = 0;
                firstMeeting[day] = NONE;
            }
            for (int i = 0; i < echoes.held; i++) {
                if ((there >> i & 1) != 0) {
                    echoing[echoes.days[i]] |= 1 << echoes.speakers[i];
                }
            }
            for (int person = 0; person < told.people; person++) {
                dying[told.dies[person]] |= 1 << person;
            }
            // From the last one on, so that each DAY's chain has its MEETINGS as told.
            for (int i = told.meetings - 1; i >= 0; i--) {
                nextMeeting[i] = firstMeeting[told.days[i]];
                firstMeeting[told.days[i]] = i;
            }
        }

        private void growDebts(Told told) {
            for (int word = 0; word < words; word++) {
                if (state[word] == OPEN) {
                    int more = told.sorts[told.lenders[word]] == PREACHER ? 2 : 1;
                    left[word] = Math.min(left[word] + more, MOST_USES);
                }
            }
        }

        private void holdMeetings(Told told, int day) {
            int i = firstMeeting[day];
            for (int held = 0; held < told.meetings && i != NONE; held++) {
                int first = told.firsts[i];
                int other = told.others[i];
                if (told.areTwo(first, other) && (dead >> first & 1) == 0 && (dead >> other & 1) == 0) {
                    speak(told.sorts[first], day, first, leastOpen(told, other, first));
                    speak(told.sorts[other], day, other, leastOpen(told, first, other));
                }
                i = nextMeeting[i];
            }
        }

        private void speak(int sort, int day, int speaker, int word) {
            if (word == NONE || sort == MISER) {
                return;
            }
            occasions[speaker]++;
            if (sort == ORPHAN && occasions[speaker] % 2 != 0) {
                return;
            }
            said[speaker]++;
            if ((echoing[day] >> speaker & 1) != 0) {
                return;
            }
            left[word] -= sort == PREACHER ? 2 : 1;
            if (left[word] <= 0) {
                left[word] = 0;
                state[word] = PAID;
            }
        }

        private int leastOpen(Told told, int lender, int debtor) {
            for (int word = 0; word < words; word++) {
                if (state[word] == OPEN && told.lenders[word] == lender && told.debtors[word] == debtor) {
                    return word;
                }
            }
            return NONE;
        }

        private void bury(Told told, int day) {
            for (int word = 0; word < words; word++) {
                if (state[word] != OPEN) {
                    continue;
                }
                // Who owes comes first: between two who die on one DAY a WORD is LOST.
                if ((dying[day] >> told.debtors[word] & 1) != 0) {
                    state[word] = LOST;
                } else if ((dying[day] >> told.lenders[word] & 1) != 0) {
                    state[word] = PRAYER;
                }
            }
            dead |= dying[day];
        }

        int stateBehind(int day, int word) {
            return isOutside(day, DAYS) || isOutside(word, words) ? NONE : states[day * MOST_WORDS + word];
        }

        /** NONE of a WORD that there is not: so nothing COUNTED of it comes out so. */
        int leftBehind(int day, int word) {
            return isOutside(day, DAYS) || isOutside(word, words) ? NONE : lefts[day * MOST_WORDS + word];
        }

        int saidBehind(int day, int person) {
            return isOutside(day, DAYS) || isOutside(person, MOST_PEOPLE) ? NONE : saids[day * MOST_PEOPLE + person];
        }

        /** The USES of what is OPEN and, in the row of lenders or of debtors, is that PERSON's. */
        int openUses(int day, int[] whose, int person) {
            int sum = 0;
            for (int word = 0; word < words; word++) {
                if (whose[word] == person && stateBehind(day, word) == OPEN) {
                    sum += leftBehind(day, word);
                }
            }
            return sum;
        }

        boolean hasLost(Told told, int day, int debtor) {
            for (int word = 0; word < words; word++) {
                if (told.debtors[word] == debtor && stateBehind(day, word) == LOST) {
                    return true;
                }
            }
            return false;
        }

        boolean owesNothing(Told told, int day, int person) {
            return openUses(day, told.debtors, person) == 0 && !hasLost(told, day, person);
        }

        int openOrLostUses() {
            int sum = 0;
            for (int word = 0; word < words; word++) {
                int what = stateBehind(LAST_DAY, word);
                if (what == OPEN || what == LOST) {
                    sum += leftBehind(LAST_DAY, word);
                }
            }
            return sum;
        }

        int wordsThatAre(int what) {
            int number = 0;
            for (int word = 0; word < words; word++) {
                if (stateBehind(LAST_DAY, word) == what) {
                    number++;
                }
            }
            return number;
        }

        /** To whom each one OWES behind a DAY, as bits. */
        void followDebts(Told told, int day) {
            for (int person = 0; person < MOST_PEOPLE; person++) {
                owesTo[person] = 0;
            }
            for (int word = 0; word < words; word++) {
                if (stateBehind(day, word) == OPEN) {
                    owesTo[told.debtors[word]] |= 1 << told.lenders[word];
                }
            }
        }

        /** By how few debts one comes back to a PERSON; NONE if by no number of them. */
        int stepsAround(int person) {
            int reached = 1 << person;
            for (int steps = 1; steps <= MOST_PEOPLE; steps++) {
                reached = oneDebtOn(reached);
                if ((reached >> person & 1) != 0) {
                    return steps;
                }
            }
            return NONE;
        }

        private int oneDebtOn(int from) {
            int to = 0;
            for (int person = 0; person < MOST_PEOPLE; person++) {
                if ((from >> person & 1) != 0) {
                    to |= owesTo[person];
                }
            }
            return to;
        }
    }
}

import java.math.BigInteger;
import java.util.ArrayList;
import java.util.List;

/**
 * The document once more, told another way: every answer is found anew from lists that nothing
 * changes. RandomTest holds the class against it.
 */
final class Plain {
    static final int NONE = -1, BAD = -2, NOT = -3, FULL = -4;

    record Person(char sort, int dies) { }

    record Word(int lender, int debtor, int uses) { }

    record Meeting(int day, int first, int other) { }

    record Echo(int day, int person) { }

    record Count(int day, int word, int uses) { }

    record World(List<Person> people, List<Word> words, List<Meeting> meetings, List<Echo> echoes) {
        boolean has(int person) {
            return person < people.size();
        }
    }

    /** Behind a DAY: of each WORD a letter (O P Y L V) and what is left; of each PERSON what was SAID. */
    record Evening(char[] what, int[] left, int[] said) { }

    private final StringBuilder[] texts = {new StringBuilder(), new StringBuilder(), new StringBuilder()};
    private final List<Echo> echoes = new ArrayList<>();
    private final List<Count> counts = new ArrayList<>();
    private final int[][] sheets = new int[4][];
    private final int[] forms = new int[4];
    private int latest = 0;

    // ---- texts

    private static final String[] FORMS = {"[pomb][a-x]", "[0-7][0-7][1-9]", "[a-x][0-7][0-7]"};
    private static final int[] MOST = {23, 47, 47};

    int type(int text, int b) {
        if (text < 0 || text > 2 || b < 0 || b > 255) {
            return BAD;
        }
        if (texts[text].length() == MOST[text]) {
            return FULL;
        }
        return texts[text].append((char) b).length();
    }

    int wipe(int text) {
        if (text < 0 || text > 2) {
            return BAD;
        }
        int had = texts[text].length();
        texts[text].setLength(0);
        return had;
    }

    int undo(int text) {
        if (text < 0 || text > 2) {
            return BAD;
        }
        if (texts[text].length() == 0) {
            return NOT;
        }
        texts[text].setLength(texts[text].length() - 1);
        return texts[text].length();
    }

    private static boolean isWell(int text, String bytes) {
        return bytes.isEmpty() || bytes.matches(FORMS[text] + "(;" + FORMS[text] + ")*");
    }

    private static final String[] ENDS = {"", "a", "pa", ";pa", "1", "01", "001", ";001", "a00", "00", "0", ";a00"};

    /** Some ending makes it well: so it can go on. */
    private static boolean canGoOn(int text, String bytes) {
        for (String end : ENDS) {
            if (isWell(text, bytes + end)) {
                return true;
            }
        }
        return false;
    }

    int fault(int text) {
        if (text < 0 || text > 2) {
            return BAD;
        }
        String bytes = texts[text].toString();
        for (int i = 0; i < bytes.length(); i++) {
            if (!canGoOn(text, bytes.substring(0, i + 1))) {
                return i;
            }
        }
        return isWell(text, bytes) ? NONE : bytes.length();
    }

    private String[] parts(int text) {
        String bytes = texts[text].toString();
        return bytes.isEmpty() || fault(text) != NONE ? new String[0] : bytes.split(";");
    }

    World world() {
        List<Person> people = new ArrayList<>();
        for (String s : parts(0)) {
            people.add(new Person(s.charAt(0), s.charAt(1) - 'a'));
        }
        List<Word> words = new ArrayList<>();
        for (String s : parts(1)) {
            words.add(new Word(s.charAt(0) - '0', s.charAt(1) - '0', s.charAt(2) - '0'));
        }
        List<Meeting> meetings = new ArrayList<>();
        for (String s : parts(2)) {
            meetings.add(new Meeting(s.charAt(0) - 'a', s.charAt(1) - '0', s.charAt(2) - '0'));
        }
        return new World(people, words, meetings, List.copyOf(echoes));
    }

    int person(int person, int what) {
        List<Person> people = world().people();
        if (person < 0 || person >= people.size() || what < 0 || what > 1) {
            return BAD;
        }
        return what == 0 ? "pomb".indexOf(people.get(person).sort()) : people.get(person).dies();
    }

    int word(int word, int what) {
        List<Word> words = world().words();
        if (word < 0 || word >= words.size() || what < 0 || what > 2) {
            return BAD;
        }
        Word w = words.get(word);
        return new int[] {w.lender(), w.debtor(), w.uses()}[what];
    }

    int meeting(int i, int what) {
        if (i < 0 || i > 11 || what < 0 || what > 2) {
            return BAD;
        }
        List<Meeting> meetings = world().meetings();
        if (i >= meetings.size()) {
            return NONE;
        }
        Meeting m = meetings.get(i);
        return new int[] {m.day(), m.first(), m.other()}[what];
    }

    int echo(int day, int person) {
        if (day < 0 || day > 23 || person < 0 || person > 7) {
            return BAD;
        }
        if (echoes.size() == 8) {
            return FULL;
        }
        echoes.add(new Echo(day, person));
        return echoes.size();
    }

    int back() {
        if (echoes.isEmpty()) {
            return NOT;
        }
        echoes.remove(echoes.size() - 1);
        return echoes.size();
    }

    int read(int s) {
        if (s < 0 || s > 3) {
            return BAD;
        }
        if (sheets[s] == null) {
            return find(1);
        }
        int came = 0;
        while (2 * came + 1 < sheets[s].length && echo(sheets[s][2 * came], sheets[s][2 * came + 1]) > 0) {
            came++;
        }
        return came;
    }

    // ---- days

    static List<Evening> evenings(World w) {
        int words = w.words().size();
        char[] what = new char[words];
        int[] left = new int[words];
        for (int i = 0; i < words; i++) {
            Word word = w.words().get(i);
            boolean open = w.has(word.lender()) && w.has(word.debtor()) && word.lender() != word.debtor();
            what[i] = open ? 'O' : 'V';
            left[i] = word.uses();
        }
        int[] said = new int[w.people().size()];
        int[] stammer = new int[w.people().size()];
        List<Evening> all = new ArrayList<>();
        for (int day = 0; day < 24; day++) {
            if (day % 7 == 6) {
                for (int i = 0; i < words; i++) {
                    if (what[i] == 'O') {
                        left[i] += w.people().get(w.words().get(i).lender()).sort() == 'b' ? 2 : 1;
                        left[i] = left[i] > 9 ? 9 : left[i];
                    }
                }
            }
            for (Meeting m : w.meetings()) {
                if (m.day() == day && m.first() != m.other() && lives(w, m.first(), day) && lives(w, m.other(), day)) {
                    talk(w, day, m.first(), m.other(), what, left, said, stammer);
                    talk(w, day, m.other(), m.first(), what, left, said, stammer);
                }
            }
            for (int i = 0; i < words; i++) {
                if (what[i] == 'O' && w.people().get(w.words().get(i).debtor()).dies() == day) {
                    what[i] = 'L';
                }
            }
            for (int i = 0; i < words; i++) {
                if (what[i] == 'O' && w.people().get(w.words().get(i).lender()).dies() == day) {
                    what[i] = 'Y';
                }
            }
            all.add(new Evening(what.clone(), left.clone(), said.clone()));
        }
        return all;
    }

    private static boolean lives(World w, int person, int day) {
        return w.has(person) && w.people().get(person).dies() >= day;
    }

    private static void talk(World w, int day, int who, int to, char[] what, int[] left, int[] said, int[] stammer) {
        char sort = w.people().get(who).sort();
        for (int i = 0; i < what.length; i++) {
            Word word = w.words().get(i);
            if (what[i] == 'O' && word.debtor() == who && word.lender() == to) {
                stammer[who] ^= 1;
                if (sort == 'm' || sort == 'o' && stammer[who] == 1) {
                    return;
                }
                said[who]++;
                if (!w.echoes().contains(new Echo(day, who))) {
                    left[i] = Math.max(0, left[i] - (sort == 'b' ? 2 : 1));
                    what[i] = left[i] == 0 ? 'P' : 'O';
                }
                return;
            }
        }
    }

    int stands(int day, int word, int what) {
        World w = world();
        if (day < 0 || day > 23 || word < 0 || word >= w.words().size() || what < 0 || what > 1) {
            return BAD;
        }
        Evening e = evenings(w).get(day);
        return what == 0 ? "OPYLV".indexOf(e.what()[word]) : e.left()[word];
    }

    private static int sum(World w, Evening e, String kinds, int lender, int debtor) {
        int sum = 0;
        for (int i = 0; i < w.words().size(); i++) {
            Word word = w.words().get(i);
            if (kinds.indexOf(e.what()[i]) >= 0 && (lender < 0 || word.lender() == lender)
                    && (debtor < 0 || word.debtor() == debtor)) {
                sum += e.left()[i];
            }
        }
        return sum;
    }

    int at(int day, int person, int what) {
        World w = world();
        if (day < 0 || day > 23 || person < 0 || person >= w.people().size() || what < 0 || what > 3) {
            return BAD;
        }
        Evening e = evenings(w).get(day);
        return switch (what) {
            case 0 -> lives(w, person, day + 1) ? 0 : 1;
            case 1 -> sum(w, e, "O", -1, person);
            case 2 -> sum(w, e, "O", person, -1);
            default -> e.said()[person];
        };
    }

    int clear(int person) {
        World w = world();
        if (person < 0 || person >= w.people().size()) {
            return BAD;
        }
        List<Evening> all = evenings(w);
        for (int day = 0; day < 24; day++) {
            // What is OPEN or LOST is left for 1 at least: so a sum of 0 says that there is none.
            if (sum(w, all.get(day), "OL", -1, person) == 0) {
                return day;
            }
        }
        return NONE;
    }

    int bank(int day) {
        if (day < 0 || day > 23) {
            return BAD;
        }
        World w = world();
        Evening e = evenings(w).get(day);
        int best = NONE;
        for (int p = w.people().size() - 1; p >= 0; p--) {
            int owed = sum(w, e, "O", p, -1);
            if (owed > 0 && (best == NONE || owed >= sum(w, e, "O", best, -1))) {
                best = p;
            }
        }
        return best;
    }

    int ring(int day, int what) {
        if (day < 0 || day > 23 || what < 0 || what > 1) {
            return BAD;
        }
        World w = world();
        Evening e = evenings(w).get(day);
        for (int many = 2; many <= w.people().size(); many++) {
            int least = 99;
            for (int p = 0; p < w.people().size(); p++) {
                if (comesRound(w, e, p, p, many, 1 << p)) {
                    least = Math.min(least, p);
                }
            }
            if (least < 99) {
                return what == 0 ? many : least;
            }
        }
        return NONE;
    }

    /** A way of different PEOPLE, so many, back to the start. */
    private static boolean comesRound(World w, Evening e, int start, int from, int many, int seen) {
        for (int next = 0; next < w.people().size(); next++) {
            if (sum(w, e, "O", next, from) == 0) {
                continue;
            }
            if (many == 1 ? next == start : (seen >> next & 1) == 0
                    && comesRound(w, e, start, next, many - 1, seen | 1 << next)) {
                return true;
            }
        }
        return false;
    }

    int silent() {
        int bits = 0;
        int[] said = evenings(world()).get(23).said();
        for (int p = 0; p < said.length; p++) {
            bits += said[p] == 0 ? 1 << p : 0;
        }
        return bits;
    }

    // ---- plans

    private static <T> List<T> with(List<T> list, int i, T x) {
        List<T> other = new ArrayList<>(list);
        other.set(i, x);
        return other;
    }

    private static <T> List<T> more(List<T> list, T x) {
        List<T> other = new ArrayList<>(list);
        other.add(x);
        return other;
    }

    private static int words(World w, char what) {
        int n = 0;
        for (char c : evenings(w).get(23).what()) {
            n += c == what ? 1 : 0;
        }
        return n;
    }

    int meet(int day, int what) {
        if (day < 0 || day > 23 || what < 0 || what > 2) {
            return BAD;
        }
        World w = world();
        int[] best = null;
        for (int a = 0; a < w.people().size(); a++) {
            for (int b = a + 1; b < w.people().size(); b++) {
                World v = new World(w.people(), w.words(), more(w.meetings(), new Meeting(day, a, b)), w.echoes());
                int owed = sum(v, evenings(v).get(23), "OL", -1, -1);
                if (best == null || owed < best[2]) {
                    best = new int[] {a, b, owed};
                }
            }
        }
        return best == null ? NONE : best[what];
    }

    int live(int person) {
        World w = world();
        if (person < 0 || person >= w.people().size()) {
            return BAD;
        }
        for (int day = 0; day < 24; day++) {
            Person p = new Person(w.people().get(person).sort(), day);
            World v = new World(with(w.people(), person, p), w.words(), w.meetings(), w.echoes());
            if (sum(v, evenings(v).get(23), "L", -1, person) == 0) {
                return day;
            }
        }
        return NONE;
    }

    int voice(int what) {
        if (what < 0 || what > 1) {
            return BAD;
        }
        World w = world();
        int best = NONE;
        int most = NONE;
        for (int p = 0; p < w.people().size(); p++) {
            Person preacher = new Person('b', w.people().get(p).dies());
            int paid = words(new World(with(w.people(), p, preacher), w.words(), w.meetings(), w.echoes()), 'P');
            if (paid > most) {
                most = paid;
                best = p;
            }
        }
        return what == 0 ? best : most;
    }

    private static World without(World w, List<Integer> spared) {
        List<Echo> kept = new ArrayList<>();
        for (int i = 0; i < w.echoes().size(); i++) {
            if (!spared.contains(i)) {
                kept.add(w.echoes().get(i));
            }
        }
        return new World(w.people(), w.words(), w.meetings(), kept);
    }

    int spare(int i) {
        if (i < -1 || i > 1) {
            return BAD;
        }
        World w = world();
        List<List<Integer>> rows = new ArrayList<>();
        rows.add(List.of());
        for (int a = 0; a < echoes.size(); a++) {
            rows.add(List.of(a));
        }
        for (int a = 0; a < echoes.size(); a++) {
            for (int b = a + 1; b < echoes.size(); b++) {
                rows.add(List.of(a, b));
            }
        }
        for (List<Integer> row : rows) {
            if (words(without(w, row), 'L') == 0) {
                return i == -1 ? row.size() : i < row.size() ? row.get(i) : NONE;
            }
        }
        return NONE;
    }

    // ---- counted, chance, lives

    int tally(int day, int word, int uses) {
        if (day < 0 || day > 23 || word < 0 || word > 11 || uses < 0 || uses > 9) {
            return BAD;
        }
        if (counts.size() == 8) {
            return FULL;
        }
        counts.add(new Count(day, word, uses));
        return counts.size();
    }

    int forget() {
        int had = counts.size();
        counts.clear();
        return had;
    }

    private boolean fits(World w) {
        List<Evening> all = evenings(w);
        return counts.stream().allMatch(c -> c.word() < w.words().size()
                && all.get(c.day()).left()[c.word()] == c.uses());
    }

    int never() {
        int bits = 0;
        for (int i = 0; i < echoes.size(); i++) {
            bits += fits(without(world(), List.of(i))) ? 1 << i : 0;
        }
        return bits;
    }

    int sort(int person) {
        World w = world();
        if (person < 0 || person >= w.people().size()) {
            return BAD;
        }
        int bits = 0;
        for (int s = 0; s < 4; s++) {
            Person p = new Person("pomb".charAt(s), w.people().get(person).dies());
            bits += fits(new World(with(w.people(), person, p), w.words(), w.meetings(), w.echoes())) ? 1 << s : 0;
        }
        return bits;
    }

    private static World lentFor(World w, int word, int uses) {
        Word other = new Word(w.words().get(word).lender(), w.words().get(word).debtor(), uses);
        return new World(w.people(), with(w.words(), word, other), w.meetings(), w.echoes());
    }

    int lent(int word) {
        World w = world();
        if (word < 0 || word >= w.words().size()) {
            return BAD;
        }
        int bits = 0;
        for (int uses = 1; uses < 10; uses++) {
            bits += fits(lentFor(w, word, uses)) ? 1 << uses : 0;
        }
        return bits;
    }

    int ask(int word) {
        World w = world();
        int bits = lent(word);
        if (bits == BAD) {
            return BAD;
        }
        int best = NONE;
        int least = 99;
        for (int day = 0; day < 24; day++) {
            int[] groups = new int[10];
            int greatest = 0;
            for (int uses = 1; uses < 10; uses++) {
                if ((bits >> uses & 1) == 1) {
                    int left = evenings(lentFor(w, word, uses)).get(day).left()[word];
                    greatest = Math.max(greatest, ++groups[left]);
                }
            }
            if (greatest < least) {
                least = greatest;
                best = day;
            }
        }
        return best;
    }

    long chance(int c, int word, int what) {
        World w = world();
        if (c < 0 || c > 16 || word < 0 || word >= w.words().size() || what < 0 || what > 1) {
            return Long.MIN_VALUE + 2;
        }
        BigInteger above = BigInteger.ZERO;
        BigInteger below = BigInteger.valueOf(16).pow(echoes.size());
        for (int set = 0; set < 1 << echoes.size(); set++) {
            BigInteger weight = BigInteger.ONE;
            List<Integer> not = new ArrayList<>();
            for (int i = 0; i < echoes.size(); i++) {
                boolean is = (set >> i & 1) == 1;
                weight = weight.multiply(BigInteger.valueOf(is ? c : 16 - c));
                if (!is) {
                    not.add(i);
                }
            }
            if (weight.signum() > 0 && evenings(without(w, not)).get(23).what()[word] == 'P') {
                above = above.add(weight);
            }
        }
        BigInteger common = above.gcd(below);
        return (what == 0 ? above : below).divide(common).longValueExact();
    }

    int lives(int seed, int n, int what) {
        if (n < 0 || n > 12 || what < 0 || what > 1) {
            return BAD;
        }
        World w = world();
        List<Meeting> drawn = new ArrayList<>();
        long s = seed;
        int people = w.people().size();
        for (int i = 0; i < n && people > 0; i++) {
            int[] lots = new int[3];
            for (int k = 0; k < 3; k++) {
                s = 1103515245L * s + 12345 & 0xFFFFFFFFL;
                lots[k] = (int) ((s >> 16) % (k == 0 ? 24 : people));
            }
            drawn.add(new Meeting(lots[0], lots[1], lots[2]));
        }
        return words(new World(w.people(), w.words(), drawn, w.echoes()), what == 0 ? 'P' : 'L');
    }

    // ---- sheets

    private int find(int number) {
        latest = number;
        return -10 - number;
    }

    private static int cut(int form, int v) {
        return form == 0 ? (v << 24) >> 24 : form == 1 ? (v << 16) >> 16 : v;
    }

    int sheet(int s, int form, int n) {
        if (s < 0 || s > 3 || form < 0 || form > 2 || n > 60) {
            return BAD;
        }
        if (n < 0) {
            return find(5);
        }
        sheets[s] = new int[n];
        forms[s] = form;
        return n;
    }

    int lose(int s) {
        if (s < 0 || s > 3) {
            return BAD;
        }
        if (sheets[s] == null) {
            return find(1);
        }
        int had = sheets[s].length;
        sheets[s] = null;
        return had;
    }

    int formOf(int s) {
        return forms[s];
    }

    int sizeOf(int s) {
        return sheets[s] == null ? 0 : sheets[s].length;
    }

    private int amiss(int s, int form, int i) {
        if (sheets[s] == null) {
            return 1;
        }
        return forms[s] != form ? 3 : i < 0 || i >= sheets[s].length ? 2 : 0;
    }

    int lay(int s, int form, int i, int v) {
        if (s < 0 || s > 3 || form < 0 || form > 2) {
            return BAD;
        }
        if (amiss(s, form, i) != 0) {
            return find(amiss(s, form, i));
        }
        sheets[s][i] = cut(form, v);
        return 1;
    }

    int get(int s, int form, int i) {
        if (s < 0 || s > 3 || form < 0 || form > 2) {
            return Integer.MIN_VALUE;
        }
        if (amiss(s, form, i) != 0) {
            find(amiss(s, form, i));
            return Integer.MIN_VALUE;
        }
        return sheets[s][i];
    }

    int copy(int s, int i, int t, int j, int n) {
        if (s < 0 || s > 3 || t < 0 || t > 3) {
            return BAD;
        }
        if (sheets[s] == null || sheets[t] == null) {
            return find(1);
        }
        if (forms[s] != forms[t]) {
            return find(4);
        }
        if (i < 0 || j < 0 || n < 0 || (long) i + n > sheets[s].length || (long) j + n > sheets[t].length) {
            return find(2);
        }
        int[] asTheyWere = sheets[s].clone();
        for (int k = 0; k < n; k++) {
            sheets[t][j + k] = asTheyWere[i + k];
        }
        return 1;
    }

    int write(int word, int s) {
        World w = world();
        if (word < 0 || word >= w.words().size() || s < 0 || s > 3) {
            return BAD;
        }
        if (sheets[s] == null) {
            return find(1);
        }
        List<Evening> all = evenings(w);
        int day = 0;
        for (; day < 24 && day < sheets[s].length; day++) {
            sheets[s][day] = cut(forms[s], all.get(day).left()[word]);
        }
        return day;
    }

    int count(int what) {
        if (what < 0 || what > 8) {
            return BAD;
        }
        World w = world();
        return new int[] {w.people().size(), w.words().size(), w.meetings().size(), texts[0].length(),
            texts[1].length(), texts[2].length(), echoes.size(), counts.size(), latest}[what];
    }

    long digest() {
        List<Long> row = new ArrayList<>();
        for (int i = 0; i < 8; i++) {
            row.add((long) count(i));
        }
        for (int i = 0; i < 3; i++) {
            row.add((long) fault(i));
        }
        for (int i = 0; i < 36; i++) {
            row.add((long) meeting(i / 3, i % 3));
        }
        for (int i = 0; i < count(1); i++) {
            for (int what = 0; what < 3; what++) {
                row.add((long) word(i, what));
            }
            for (int day : new int[] {0, 6, 13, 23}) {
                row.add((long) stands(day, i, 0));
                row.add((long) stands(day, i, 1));
            }
            row.add((long) lent(i));
            row.add((long) ask(i));
            row.add(chance(5, i, 0));
            row.add(chance(5, i, 1));
        }
        for (int i = 0; i < count(0); i++) {
            row.add((long) person(i, 0));
            row.add((long) person(i, 1));
            for (int k = 0; k < 8; k++) {
                row.add((long) at(k < 4 ? 6 : 23, i, k % 4));
            }
            row.add((long) clear(i));
            row.add((long) live(i));
            row.add((long) sort(i));
        }
        for (int day = 0; day < 24; day++) {
            row.add((long) bank(day));
            row.add((long) ring(day, 0));
            row.add((long) ring(day, 1));
        }
        long[] last = {silent(), meet(8, 0), meet(8, 1), meet(8, 2), voice(0), voice(1), spare(-1), spare(0),
            never(), lives(7, 9, 0), lives(7, 9, 1)};
        for (long x : last) {
            row.add(x);
        }
        long h = 17;
        for (long x : row) {
            h = 31 * h + x;
        }
        return h;
    }
}

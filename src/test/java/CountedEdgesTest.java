/** Promises 22 to 29: each sentence of the document that names an edge of COUNTED, CHANCE and LIVES. */
final class CountedEdgesTest {
    private static final Check CHECK = new Check("CountedEdgesTest");
    private static final String EIGHT = "px;ox;mx;bx;pk;oc;bn;px";

    public static void main(String[] args) {
        tallyEachNumber();
        eightCounted();
        wordsThatThereAreNot();
        neverOfNothing();
        neverEachAlone();
        sortOfEach();
        sortOfTheLast();
        lentEachNumber();
        lentAsBits();
        lentOfEachKind();
        allThatWasCounted();
        askOfEach();
        chanceOfEachC();
        chanceOfEight();
        chanceOfManyWays();
        chanceOfEachKind();
        livesAsTold();
        livesOfFew();
        livesInPlaceOfThoseTold();
        CHECK.end();
    }

    private static void due(String call, long got, long want) {
        CHECK.due(call, got, want);
    }

    private static String many(String thing, int n) {
        return Check.many(thing, n);
    }

    /** "behind a DAY a WORD (0 to 11 ..) was left for so many USES (0 to 9)" */
    private static void tallyEachNumber() {
        for (int i = 0; i < 24; i++) {
            due("tally of day " + i, new WordsLent().tally(i, 0, 0), 1);
        }
        for (int i = 0; i < 12; i++) {
            due("tally of word " + i, new WordsLent().tally(0, i, 0), 1);
        }
        for (int i = 0; i < 10; i++) {
            due("tally of " + i + " uses", new WordsLent().tally(0, 0, i), 1);
        }
        WordsLent x = new WordsLent();
        int[][] wrong = {{24, 0, 0}, {-1, 0, 0}, {0, 12, 0}, {0, -1, 0}, {0, 0, 10}, {0, 0, -1}};
        for (int[] w : wrong) {
            due("tally, wrong", x.tally(w[0], w[1], w[2]), -2);
        }
        due("none was counted", x.count(7), 0);
    }

    /** "COUNTED, 8 at most"; "All that was COUNTED is forgotten: how many." */
    private static void eightCounted() {
        WordsLent x = Check.told("px;px", "105", "");
        due("forget, none", x.forget(), 0);
        for (int i = 1; i < 8; i++) {
            due("tally", x.tally(0, 0, 5), i);
        }
        due("all come out so", x.lent(0), 1 << 5);
        due("the eighth", x.tally(0, 0, 6), 8);
        due("the eighth does not", x.lent(0), 0);
        due("a ninth", x.tally(0, 0, 5), -4);
        due("how many", x.count(7), 8);
        due("forget", x.forget(), 8);
        due("forget, again", x.forget(), 0);
        due("nothing is counted", x.lent(0), 1022);
        due("a first again", x.tally(0, 0, 3), 1);
        due("it alone counts", x.lent(0), 1 << 3);
    }

    /** "of one that there is not it never comes out so" */
    private static void wordsThatThereAreNot() {
        WordsLent x = Check.told("px;px", many("109", 11), "");
        x.echo(0, 0);
        x.tally(0, 10, 9);
        due("the last one is there", x.never(), 1);
        for (int uses = 0; uses <= 9; uses++) {
            x.forget();
            x.tally(0, 11, uses);
            due("never", x.never(), 0);
            due("sort", x.sort(0), 0);
            due("lent", x.lent(0), 0);
        }
        Check.put(x, 1, ";109");
        due("it is there now", x.never(), 1);
        due("it is there now", x.sort(0), 15);
        due("it is there now", x.lent(11), 1 << 9);
        x.undo(1);
        due("with a fault it is not", x.never(), 0);
    }

    private static void neverOfNothing() {
        WordsLent x = Check.told("px;px", "105", "");
        due("no echoes", x.never(), 0);
        x.tally(0, 0, 5);
        due("no echoes, and it comes out so", x.never(), 0);
        for (int i = 0; i < 8; i++) {
            x.echo(i, i);
            due("each, if it comes out so whatever was", x.never(), (2 << i) - 1);
        }
    }

    /** "ECHOES each of which, had it alone not been, makes all that was COUNTED come out so, as bits" */
    private static void neverEachAlone() {
        for (int which = 0; which < 8; which++) {
            WordsLent x = Check.told("px;px", "105", "c01");
            for (int i = 0; i < 8; i++) {
                x.echo(2, i == which ? 0 : 1);
            }
            x.tally(2, 0, 4);
            due("never, " + which, x.never(), 1 << which);
            x.forget();
            x.tally(2, 0, 5);
            due("never, all but " + which, x.never(), 255 - (1 << which));
        }
        WordsLent twice = Check.told("px;px", "105", "c01");
        twice.echo(2, 0);
        twice.echo(2, 0);
        twice.tally(2, 0, 4);
        due("neither of two alone", twice.never(), 0);
        due("echoes are left", twice.count(6), 2);
        due("what was is left", twice.stands(2, 0, 1), 5);
    }

    /** "0 p, 1 o, 2 m, 3 b, in place of its own, likewise, as bits" */
    private static void sortOfEach() {
        for (char own : "pomb".toCharArray()) {
            for (int uses = 0; uses <= 9; uses++) {
                WordsLent x = Check.told(own + "x;px", "109", "a01;b01");
                x.tally(1, 0, uses);
                // p has said it twice, o once, m never, b twice for 2.
                int bits = uses == 7 ? 1 : uses == 8 ? 2 : uses == 9 ? 4 : uses == 5 ? 8 : 0;
                due("sort, left for " + uses, x.sort(0), bits);
                due("its own sort is left", x.person(0, 0), "pomb".indexOf(own));
            }
        }
    }

    private static void sortOfTheLast() {
        WordsLent x = Check.told(many("mx", 8), "675;765", "a67");
        due("nothing counted", x.sort(7), 15);
        x.tally(0, 0, 4);
        due("it said it once", x.sort(7), 1);
        due("of no other one it comes out so", x.sort(0), 0);
        due("no ninth one", x.sort(8), -2);
        x.forget();
        x.tally(6, 0, 7);
        due("by who lent it", x.sort(6), 8);
        due("nobody", new WordsLent().sort(0), -2);
    }

    /** "1 to 9 USES, in place of its own, likewise, as bits (bit 1 on)" */
    private static void lentEachNumber() {
        for (int own = 1; own <= 9; own++) {
            for (int left = 0; left <= 9; left++) {
                WordsLent x = Check.told("px;px", "10" + own, "");
                x.tally(0, 0, left);
                due("lent, left for " + left, x.lent(0), left == 0 ? 0 : 1 << left);
                due("its own uses are left", x.word(0, 2), own);
            }
        }
    }

    private static int lentBy(String people, String meetings, int day, int left) {
        WordsLent x = Check.told(people, "105", meetings);
        x.tally(day, 0, left);
        return x.lent(0);
    }

    private static void lentAsBits() {
        due("paid by one", lentBy("px;px", "a01", 0, 0), 1 << 1);
        due("paid by a preacher", lentBy("bx;px", "a01", 0, 0), 1 << 1 | 1 << 2);
        due("left for 7 by a preacher", lentBy("bx;px", "a01", 0, 7), 1 << 9);
        due("left for 8 by a preacher", lentBy("bx;px", "a01", 0, 8), 0);
        due("nine on day 6", lentBy("px;px", "", 6, 9), 1 << 8 | 1 << 9);
        due("nine on day 20", lentBy("px;px", "", 20, 9), 15 << 6);
        due("nine on day 20, lent by a preacher", lentBy("px;bx", "", 20, 9), 127 << 3);
        due("paid by nine", lentBy("px;px", many("a01", 9), 0, 0), 1022);
        due("paid by eight", lentBy("px;px", many("a01", 8), 0, 0), 510);
        due("eight, and one is left", lentBy("px;px", many("a01", 8), 0, 1), 512);
    }

    private static void lentOfEachKind() {
        due("lost, as it was last", lentBy("pa;px", "a01", 23, 3), 1 << 4);
        due("a prayer, as it was last", lentBy("px;pa", "a01", 23, 3), 1 << 4);
        due("void, as told", lentBy("px", "a01", 23, 3), 1 << 3);
        due("void, of nobody", lentBy("", "a01", 6, 9), 1 << 9);
        WordsLent x = Check.told("px;px", many("101", 12), "");
        x.tally(0, 11, 7);
        due("the last word", x.lent(11), 1 << 7);
        due("the first word", x.lent(0), 0);
        due("no thirteenth word", x.lent(12), -2);
        due("no word", new WordsLent().lent(0), -2);
    }

    /** "all that was COUNTED": not one of them may fail. */
    private static void allThatWasCounted() {
        for (int wrong = 0; wrong < 8; wrong++) {
            WordsLent x = Check.told("px;px", "104;013", "");
            x.echo(0, 0);
            for (int i = 0; i < 8; i++) {
                x.tally(i == 7 ? 0 : 5, i % 2, (i % 2 == 0 ? 4 : 3) + (i == wrong ? 1 : 0));
            }
            due("never", x.never(), 0);
            due("sort", x.sort(0), 0);
            due("lent", x.lent(0), 0);
        }
    }

    /** ASK: "of like ones the least". What once leaves a WORD alike leaves it so ever after. */
    private static void askOfEach() {
        for (char sort : "pomb".toCharArray()) {
            WordsLent x = Check.told(sort + "x;b" + sort, "105;019;225", "a01;b01;d01;g01");
            for (int word = 0; word < 3; word++) {
                due("ask, nothing counted", x.ask(word), 0);
            }
            x.tally(3, 0, 5);
            due("ask", x.ask(0), 0);
            x.tally(3, 0, 6);
            due("ask, of none", x.ask(0), 0);
        }
        WordsLent full = Check.full();
        due("ask, the last", full.ask(11), 0);
        due("ask, no thirteenth", full.ask(12), -2);
        due("ask, no word", new WordsLent().ask(0), -2);
    }

    private static long common(long a, long b) {
        return b == 0 ? a : common(b, a % b);
    }

    private static void chanceIs(WordsLent x, int c, int word, long above, long below) {
        long by = common(above, below);
        due("chance(" + c + ", " + word + ", 0)", x.chance(c, word, 0), above / by);
        due("chance(" + c + ", " + word + ", 1)", x.chance(c, word, 1), below / by);
    }

    private static long power(long base, int n) {
        return n == 0 ? 1 : base * power(base, n - 1);
    }

    /** "each of ECHOES is by c sixteenths (0 to 16)"; "in lowest terms, above and below (0 by 1)" */
    private static void chanceOfEachC() {
        WordsLent x = Check.told("px;px", "101;105", "a01");
        for (int c = 0; c <= 16; c++) {
            chanceIs(x, c, 0, 1, 1);
            chanceIs(x, c, 1, 0, 1);
        }
        x.echo(0, 0);
        for (int c = 0; c <= 16; c++) {
            chanceIs(x, c, 0, 16 - c, 16);
            chanceIs(x, c, 1, 0, 16);
        }
        due("0 by 1", x.chance(16, 0, 1), 1);
        due("1 by 1", x.chance(0, 0, 1), 1);
        due("c above", x.chance(17, 0, 0), Long.MIN_VALUE + 2);
        due("c below", x.chance(-1, 0, 0), Long.MIN_VALUE + 2);
        due("no finding", x.count(8), 0);
    }

    /** "by itself": each of eight, though they are of one DAY and PERSON. */
    private static void chanceOfEight() {
        WordsLent x = Check.told("px;px", "101", "a01");
        for (int held = 1; held <= 8; held++) {
            x.echo(0, 0);
            for (int c = 0; c <= 16; c++) {
                chanceIs(x, c, 0, power(16 - c, held), power(16, held));
            }
        }
        due("the greatest above", x.chance(1, 0, 0), 2562890625L);
        due("the greatest below", x.chance(1, 0, 1), 4294967296L);
        x.back();
        chanceIs(x, 1, 0, power(15, 7), power(16, 7));
    }

    /** On six DAYS one may say it, each of which an ECHO may spoil; it is to be said three times. */
    private static void chanceOfManyWays() {
        WordsLent x = Check.told("px;px", "103", "a01;b01;c01;d01;e01;f01");
        for (int day = 0; day < 6; day++) {
            x.echo(day, 0);
        }
        int[] ways = {1, 6, 15, 20, 15, 6, 1};
        for (int c = 0; c <= 16; c++) {
            long above = 0;
            for (int pays = 3; pays <= 6; pays++) {
                above += ways[pays] * power(16 - c, pays) * power(c, 6 - pays);
            }
            chanceIs(x, c, 0, above, power(16, 6));
        }
    }

    /** "the chance that a WORD is PAID behind DAY 23" */
    private static void chanceOfEachKind() {
        WordsLent x = Check.told("px;pa;pc", "101;019;009;371;201", "x02;b02;b02");
        x.echo(1, 0);
        for (int word = 0; word < 4; word++) {
            chanceIs(x, 4, word, 0, 1);
        }
        chanceIs(x, 4, 4, 12, 16);
        WordsLent last = Check.told("px;px", many("109", 11) + ";011", many("x01", 4));
        chanceIs(last, 5, 11, 1, 1);
        last.echo(23, 1);
        chanceIs(last, 5, 11, 11, 16);
        due("no thirteenth word", last.chance(5, 12, 0), Long.MIN_VALUE + 2);
        due("no word", new WordsLent().chance(5, 0, 0), Long.MIN_VALUE + 2);
    }

    /** A SEED's LOTS, in longs: what ints that wrap are, as numbers from 0 on. */
    private static String drawn(int seed, int n, int people) {
        StringBuilder b = new StringBuilder();
        long s = seed & 0xFFFFFFFFL;
        for (int i = 0; i < 3 * n; i++) {
            s = (1103515245L * s + 12345) % 4294967296L;
            long lot = s / 65536 % (i % 3 == 0 ? 24 : people);
            b.append(i > 0 && i % 3 == 0 ? ";" : "").append((char) ((i % 3 == 0 ? 'a' : '0') + lot));
        }
        return b.toString();
    }

    private static int words(WordsLent x, int what) {
        int number = 0;
        for (int word = 0; word < x.count(1); word++) {
            number += x.stands(23, word, 0) == what ? 1 : 0;
        }
        return number;
    }

    /** "n MEETINGS (0 to 12) .. of each a LOT of 24 (its DAY), two LOTS of PEOPLE"; "as ints that wrap" */
    private static void livesAsTold() {
        int[] seeds = {0, 1, -1, 7, 12345, Integer.MAX_VALUE, Integer.MIN_VALUE, 65535, 65536, -65536, 99991};
        String[] words = {"101;011;101;011;101;011", "121;212;022;202;011;101;321;231;671;761;451;541"};
        for (int people = 1; people <= 8; people++) {
            String all = EIGHT.substring(0, 3 * people - 1);
            for (int seed : seeds) {
                WordsLent by = Check.told(all, words[people > 2 ? 1 : 0], "x01");
                for (int n = 0; n <= 12; n++) {
                    WordsLent as = Check.told(all, words[people > 2 ? 1 : 0], drawn(seed, n, people));
                    due("lives(" + seed + ", " + n + ", 0)", by.lives(seed, n, 0), words(as, 1));
                    due("lives(" + seed + ", " + n + ", 1)", by.lives(seed, n, 1), words(as, 3));
                }
            }
        }
    }

    /** "(none where there are no PEOPLE)" */
    private static void livesOfFew() {
        WordsLent nobody = Check.told("", "101;011", "a01");
        WordsLent one = Check.told("px", "101;001", "a01");
        for (int n = 0; n <= 12; n++) {
            due("of nobody, paid", nobody.lives(1, n, 0), 0);
            due("of nobody, lost", nobody.lives(1, n, 1), 0);
            due("of one, paid", one.lives(1, n, 0), 0);
            due("of one, lost", one.lives(1, n, 1), 0);
        }
        due("of nobody, n above", nobody.lives(1, 13, 0), -2);
        due("of nobody, n below", nobody.lives(1, -1, 0), -2);
    }

    /** "in place of those told" */
    private static void livesInPlaceOfThoseTold() {
        WordsLent x = Check.told("px;px", many("101", 12), many("a01", 12));
        due("as told all are paid", words(x, 1), 12);
        due("without a meeting none is", x.lives(5, 0, 0), 0);
        due("without a meeting all are lost", x.lives(5, 0, 1), 12);
        due("those told are left", x.count(2), 12);
        due("as told all are paid still", words(x, 1), 12);
    }
}

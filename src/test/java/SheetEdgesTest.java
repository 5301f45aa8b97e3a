import java.util.function.Supplier;

/** Promises 30 to 37: each sentence of the document that names an edge of sheets, count and digest. */
final class SheetEdgesTest {
    private static final Check CHECK = new Check("SheetEdgesTest");
    private static final int LEAST = Integer.MIN_VALUE;
    private static final int GREATEST = Integer.MAX_VALUE;

    public static void main(String[] args) {
        everySize();
        wrongSizes();
        newRowsAreEmpty();
        sheetsAreTheirOwn();
        lowestBits();
        itemsAtTheEnds();
        everyFinding();
        copyAll();
        copyNothing();
        copyNotSoMany();
        copyWithinOne();
        copyOfUnlikeForms();
        writeAsManyAsThereAre();
        writeEachForm();
        writeTheLastWord();
        countEach();
        countFindings();
        digestOfEach();
        digestChangesNothing();
        CHECK.end();
    }

    private static void due(String call, long got, long want) {
        CHECK.due(call, got, want);
    }

    /** "SHEETS 0 .. 3"; "0 bytes, 1 shorts, 2 ints, of 0 to 60 items (0 at first)" */
    private static void everySize() {
        for (int s = 0; s < 4; s++) {
            for (int form = 0; form < 3; form++) {
                WordsLent x = new WordsLent();
                for (int n = 0; n <= 60; n++) {
                    due("sheet of " + n, x.sheet(s, form, n), n);
                    if (n > 0) {
                        due("the last item", x.get(s, form, n - 1), 0);
                        due("lay, the last item", x.lay(s, form, n - 1, 5), 1);
                        due("the last item, laid", x.get(s, form, n - 1), 5);
                    }
                    due("no such item", x.lay(s, form, n, 5), -12);
                }
                due("lose", x.lose(s), 60);
                due("lose, lost", x.lose(s), -11);
            }
        }
    }

    /** "BAD: SHEET, FORM, above 60; SIZE" */
    private static void wrongSizes() {
        WordsLent x = new WordsLent();
        due("61", x.sheet(0, 0, 61), -2);
        due("the greatest int", x.sheet(0, 0, GREATEST), -2);
        due("no finding", x.count(8), 0);
        due("it is lost still", x.lose(0), -11);
        due("below 0", x.sheet(0, 0, -1), -15);
        due("the least int", x.sheet(0, 0, LEAST), -15);
        due("it is lost still", x.lose(0), -11);
        x.sheet(0, 1, 2);
        x.lay(0, 1, 1, 300);
        due("61, of one that is there", x.sheet(0, 0, 61), -2);
        due("below 0, of one that is there", x.sheet(0, 0, -1), -15);
        due("its item is left", x.get(0, 1, 1), 300);
        due("its size is left", x.lose(0), 2);
    }

    /** "A SHEET is a new row" */
    private static void newRowsAreEmpty() {
        WordsLent x = new WordsLent();
        x.sheet(2, 2, 60);
        for (int i = 0; i < 60; i++) {
            x.lay(2, 2, i, -1 - i);
        }
        x.sheet(2, 0, 1);
        x.sheet(2, 2, 60);
        for (int i = 0; i < 60; i++) {
            due("item " + i, x.get(2, 2, i), 0);
        }
        x.lay(2, 2, 59, 9);
        x.lose(2);
        x.sheet(2, 2, 60);
        due("item 59, lost between", x.get(2, 2, 59), 0);
    }

    private static void sheetsAreTheirOwn() {
        WordsLent x = new WordsLent();
        for (int s = 0; s < 4; s++) {
            x.sheet(s, 2, 2);
            x.lay(s, 2, 1, 10 + s);
        }
        for (int s = 0; s < 4; s++) {
            due("item of " + s, x.get(s, 2, 1), 10 + s);
        }
        due("lose", x.lose(1), 2);
        due("another one is left", x.get(0, 2, 1), 10);
        due("another one is left", x.get(2, 2, 1), 12);
        due("the same one is lost", x.lay(1, 2, 1, 0), -11);
    }

    /** "the lowest bits that it has, with its sign" */
    private static void lowestBits() {
        int[] around = {0, 127, 128, 255, 256, 32767, 32768, 65535, 65536, GREATEST};
        WordsLent x = new WordsLent();
        for (int form = 0; form < 3; form++) {
            x.sheet(form, form, 1);
            for (int value : around) {
                for (int v : new int[] {value, value + 1, -value, -value - 1}) {
                    int want = form == 0 ? (byte) v : form == 1 ? (short) v : v;
                    due("lay " + v, x.lay(form, form, 0, v), 1);
                    due("get of " + v, x.get(form, form, 0), want);
                }
            }
        }
        due("no finding", x.count(8), 0);
    }

    private static void itemsAtTheEnds() {
        WordsLent x = new WordsLent();
        x.sheet(0, 1, 60);
        x.sheet(1, 1, 0);
        int[] wrong = {-1, 60, 61, LEAST, GREATEST};
        for (int i : wrong) {
            due("lay, index", x.lay(0, 1, i, 5), -12);
            due("get, index", x.get(0, 1, i), LEAST);
            due("count(8)", x.count(8), 2);
        }
        due("lay, of none", x.lay(1, 1, 0, 5), -12);
        due("get, of none", x.get(1, 1, 0), LEAST);
        for (int i = 0; i < 60; i++) {
            due("item " + i, x.get(0, 1, i), 0);
        }
    }

    /** "answers -10 less the number"; "1 NULL .. 2 INDEX .. 3 CAST .. 4 STORE .. 5 SIZE" */
    private static void everyFinding() {
        WordsLent x = new WordsLent();
        due("none yet", x.count(8), 0);
        due("size", x.sheet(0, 0, -1), -15);
        due("size", x.count(8), 5);
        x.sheet(0, 0, 1);
        x.sheet(1, 2, 1);
        due("one that is well leaves it", x.count(8), 5);
        due("store", x.copy(0, 0, 1, 0, 1), -14);
        due("store", x.count(8), 4);
        due("cast", x.lay(0, 1, 0, 0), -13);
        due("cast", x.count(8), 3);
        due("index", x.lay(0, 0, 1, 0), -12);
        due("index", x.count(8), 2);
        due("null", x.lose(3), -11);
        due("null", x.count(8), 1);
        due("cast of get", x.get(1, 0, 0), LEAST);
        due("cast of get", x.count(8), 3);
        due("null of get", x.get(3, 0, 0), LEAST);
        due("null of get", x.count(8), 1);
        due("index of get", x.get(0, 0, -1), LEAST);
        due("index of get", x.count(8), 2);
        due("an item may be the least int, too", x.lay(1, 2, 0, LEAST), 1);
        due("an item may be the least int, too", x.get(1, 2, 0), LEAST);
        due("that is no finding", x.count(8), 2);
    }

    private static WordsLent numbered(int s, int form, int n) {
        WordsLent x = new WordsLent();
        x.sheet(s, form, n);
        for (int i = 0; i < n; i++) {
            x.lay(s, form, i, i + 1);
        }
        return x;
    }

    /** "n items of SHEET s, from i on, come to SHEET t .. from j on: 1" */
    private static void copyAll() {
        for (int form = 0; form < 3; form++) {
            WordsLent x = numbered(3, form, 60);
            x.sheet(0, form, 60);
            due("copy of all", x.copy(3, 0, 0, 0, 60), 1);
            for (int i = 0; i < 60; i++) {
                due("item " + i, x.get(0, form, i), i + 1);
                due("item " + i + " is left", x.get(3, form, i), i + 1);
            }
            due("the last to the first", x.copy(3, 59, 0, 0, 1), 1);
            due("the first", x.get(0, form, 0), 60);
            due("the second is left", x.get(0, form, 1), 2);
            due("the first to the last", x.copy(3, 0, 0, 59, 1), 1);
            due("the last", x.get(0, form, 59), 1);
            due("the last but one is left", x.get(0, form, 58), 59);
        }
    }

    /** "(with n 0, too, if i or j is above how many there are)" */
    private static void copyNothing() {
        WordsLent x = numbered(0, 0, 4);
        x.sheet(1, 0, 2);
        for (int i = -1; i <= 5; i++) {
            for (int j = -1; j <= 3; j++) {
                boolean well = i >= 0 && i <= 4 && j >= 0 && j <= 2;
                due("copy of none, " + i + " " + j, x.copy(0, i, 1, j, 0), well ? 1 : -12);
            }
        }
        x.sheet(2, 0, 0);
        due("of an empty one", x.copy(2, 0, 2, 0, 0), 1);
        due("of an empty one, above", x.copy(2, 1, 2, 0, 0), -12);
        due("of an empty one, to above", x.copy(2, 0, 2, 1, 0), -12);
        due("of an empty one, one item", x.copy(2, 0, 0, 0, 1), -12);
        due("to an empty one, one item", x.copy(0, 0, 2, 0, 1), -12);
    }

    /** "INDEX: below 0, not so many" */
    private static void copyNotSoMany() {
        int[] ends = {LEAST, -1, 0, 1, 2, 3, 4, 5, GREATEST};
        for (int i : ends) {
            for (int j : ends) {
                for (int n : ends) {
                    WordsLent x = numbered(0, 0, 4);
                    x.sheet(1, 0, 3);
                    boolean well = i >= 0 && j >= 0 && n >= 0 && (long) i + n <= 4 && (long) j + n <= 3;
                    due("copy " + i + " " + j + " " + n, x.copy(0, i, 1, j, n), well ? 1 : -12);
                    for (int k = 0; k < 3; k++) {
                        boolean came = well && k >= j && k < j + n;
                        due("item " + k, x.get(1, 0, k), came ? i + k - j + 1 : 0);
                    }
                }
            }
        }
    }

    /** "(perhaps s, as they were)" */
    private static void copyWithinOne() {
        for (int i = 0; i <= 6; i++) {
            for (int j = 0; j <= 6; j++) {
                int n = 6 - Math.max(i, j);
                WordsLent x = numbered(2, 1, 6);
                due("copy within one", x.copy(2, i, 2, j, n), 1);
                for (int k = 0; k < 6; k++) {
                    due("item " + k, x.get(2, 1, k), k >= j && k < j + n ? i + k - j + 1 : k + 1);
                }
            }
        }
    }

    /** "STORE: unlike FORMS" */
    private static void copyOfUnlikeForms() {
        for (int from = 0; from < 3; from++) {
            for (int to = 0; to < 3; to++) {
                WordsLent x = numbered(0, from, 2);
                x.sheet(1, to, 2);
                due("copy from " + from + " to " + to, x.copy(0, 0, 1, 0, 2), from == to ? 1 : -14);
                due("item", x.get(1, to, 0), from == to ? 1 : 0);
                due("of none", x.copy(0, 0, 1, 0, 0), from == to ? 1 : -14);
            }
        }
    }

    /** "from item 0 on, as many as there are items, 24 at most: how many" */
    private static void writeAsManyAsThereAre() {
        for (int n = 0; n <= 60; n++) {
            WordsLent x = Check.told("px;px", "101;015", "c01");
            x.sheet(0, 0, n);
            for (int i = 0; i < n; i++) {
                x.lay(0, 0, i, 77);
            }
            due("write to " + n, x.write(1, 0), Math.min(n, 24));
            for (int i = 0; i < n; i++) {
                int left = i < 2 ? 5 : i < 6 ? 4 : i < 13 ? 5 : i < 20 ? 6 : 7;
                due("item " + i, x.get(0, 0, i), i < 24 ? left : 77);
            }
            due("its size is left", x.lose(0), n);
        }
    }

    private static void writeEachForm() {
        for (int form = 0; form < 3; form++) {
            WordsLent x = Check.told("px;px", "019;118", "g01");
            x.sheet(form, form, 8);
            due("write", x.write(0, form), 8);
            due("item 5", x.get(form, form, 5), 9);
            due("item 6", x.get(form, form, 6), 8);
            due("write, void", x.write(1, form), 8);
            due("item 7", x.get(form, form, 7), 8);
        }
    }

    private static void writeTheLastWord() {
        WordsLent x = Check.full();
        x.sheet(3, 2, 24);
        due("the last word", x.write(11, 3), 24);
        for (int day = 0; day < 24; day++) {
            due("its day " + day, x.get(3, 2, day), x.stands(day, 11, 1));
        }
        due("no thirteenth word", x.write(12, 3), -2);
        due("no word", new WordsLent().write(0, 0), -2);
        due("no finding", x.count(8), 0);
    }

    /** "0 PEOPLE, 1 WORDS, 2 MEETINGS, 3 to 5 bytes of texts, 6 ECHOES, 7 COUNTED" */
    private static void countEach() {
        WordsLent x = Check.full();
        for (int i = 0; i < 8; i++) {
            due("count(6)", x.count(6), i);
            due("count(7)", x.count(7), i);
            x.echo(i, i);
            x.tally(i, i, i);
        }
        int[] want = {8, 12, 12, 23, 47, 47, 8, 8, 0};
        for (int what = 0; what < 9; what++) {
            due("count(" + what + ")", x.count(what), want[what]);
        }
        due("count(-1)", x.count(-1), -2);
        due("count(9)", x.count(9), -2);
        due("count of the least int", x.count(LEAST), -2);
        due("count of the greatest int", x.count(GREATEST), -2);
    }

    /** "8 the number of the latest FINDING (0 before any)": what is BAD, NOT, FULL or NONE is none. */
    private static void countFindings() {
        WordsLent x = new WordsLent();
        x.type(3, 0);
        x.undo(0);
        x.back();
        x.meeting(0, 0);
        x.sheet(0, 0, 61);
        x.get(4, 0, 0);
        x.read(-1);
        x.chance(17, 0, 0);
        for (int i = 0; i < 9; i++) {
            x.echo(0, 0);
        }
        due("none was a finding", x.count(8), 0);
        x.sheet(0, 0, -5);
        x.back();
        x.undo(0);
        x.get(4, 0, 0);
        due("the latest is left", x.count(8), 5);
    }

    private static long mix(long h, long... values) {
        long mixed = h;
        for (long value : values) {
            mixed = 31 * mixed + value;
        }
        return mixed;
    }

    private static long digestOfWord(long h, WordsLent x, int w) {
        long mixed = mix(h, x.word(w, 0), x.word(w, 1), x.word(w, 2));
        for (int day : new int[] {0, 6, 13, 23}) {
            mixed = mix(mixed, x.stands(day, w, 0), x.stands(day, w, 1));
        }
        return mix(mixed, x.lent(w), x.ask(w), x.chance(5, w, 0), x.chance(5, w, 1));
    }

    private static long digestOfPerson(long h, WordsLent x, int p) {
        long mixed = mix(h, x.person(p, 0), x.person(p, 1));
        for (int day : new int[] {6, 23}) {
            mixed = mix(mixed, x.at(day, p, 0), x.at(day, p, 1), x.at(day, p, 2), x.at(day, p, 3));
        }
        return mix(mixed, x.clear(p), x.live(p), x.sort(p));
    }

    /** "h is 17; h becomes 31 h and each of ..", found by the calls themselves; "as longs that wrap". */
    private static long digestByCalls(Supplier<WordsLent> made) {
        WordsLent x = made.get();
        long h = 17;
        for (int what = 0; what <= 7; what++) {
            h = mix(h, x.count(what));
        }
        h = mix(h, x.fault(0), x.fault(1), x.fault(2));
        for (int i = 0; i <= 11; i++) {
            h = mix(h, x.meeting(i, 0), x.meeting(i, 1), x.meeting(i, 2));
        }
        for (int w = 0; w < x.count(1); w++) {
            h = digestOfWord(h, x, w);
        }
        // Another one, since an object is used for 512 calls at most.
        x = made.get();
        for (int p = 0; p < x.count(0); p++) {
            h = digestOfPerson(h, x, p);
        }
        for (int day = 0; day <= 23; day++) {
            h = mix(h, x.bank(day), x.ring(day, 0), x.ring(day, 1));
        }
        h = mix(h, x.silent(), x.meet(8, 0), x.meet(8, 1), x.meet(8, 2), x.voice(0), x.voice(1));
        return mix(h, x.spare(-1), x.spare(0), x.never(), x.lives(7, 9, 0), x.lives(7, 9, 1));
    }

    private static void digestIs(String which, Supplier<WordsLent> made) {
        due("digest, " + which, made.get().digest(), digestByCalls(made));
    }

    private static WordsLent echoed(String[] texts) {
        WordsLent x = Check.told(texts[0], texts[1], texts[2]);
        x.echo(1, 1);
        x.echo(0, 0);
        x.tally(20, 0, 9);
        return x;
    }

    private static WordsLent allFull() {
        WordsLent x = Check.full();
        for (int i = 0; i < 8; i++) {
            x.echo(i, 7 - i);
            x.tally(3 * i, i, x.stands(3 * i, i, 1));
        }
        return x;
    }

    private static void digestOfEach() {
        digestIs("new", WordsLent::new);
        String[][] texts = {{"px", "", ""}, {"", "011", "a01"}, {"px;px", "101;", "a01"}, {"px;px;", "101", "a01;"},
            {"px;px;pm", "101;011;209;123", "a01;j01;i12"}, {"bg;oh;px;mx", "012;103;325;231;222", "g01;h10;i23"},
            {"pk;bj;ox;px", "109;018;123;325;231;307", "b01;b12;d12;g01;h23;j30;k03"},
            {"px;px", "101", "a01"}, {"px;px", "012", "b01"}, {"pu;pw;px", "123;212;122", ""},
            {"px;px", "109;019", "a01;b01;f01;g01;h01;m01;n01;o01;w01;x01"}, {"ph;pi;px", "201;202;211", ""}};
        for (String[] t : texts) {
            digestIs("of texts", () -> Check.told(t[0], t[1], t[2]));
            digestIs("with echoes and counts", () -> echoed(t));
        }
        digestIs("full texts", Check::full);
        digestIs("all full", SheetEdgesTest::allFull);
    }

    private static void digestChangesNothing() {
        WordsLent x = allFull();
        x.lose(0);
        long h = x.digest();
        due("digest, again", x.digest(), h);
        due("the latest finding", x.count(8), 1);
        x.sheet(0, 2, 60);
        x.write(0, 0);
        due("sheets are not in it", x.digest(), h);
        x.back();
        due("echoes are in it", x.digest() == h ? 1 : 0, 0);
        x.echo(7, 0);
        due("echoes anew", x.digest(), h);
        x.forget();
        due("counts are in it", x.digest() == h ? 1 : 0, 0);
    }
}

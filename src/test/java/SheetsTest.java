/** Promises 30 to 37: sheets, count, digest. */
final class SheetsTest {
    private static final Check CHECK = new Check("SheetsTest");
    private static final int LEAST = Integer.MIN_VALUE;

    public static void main(String[] args) {
        sheets();
        losing();
        laying();
        getting();
        copying();
        copyingWrong();
        writing();
        counting();
        digests();
        CHECK.end();
    }

    private static void due(String call, long got, long want) {
        CHECK.due(call, got, want);
    }

    private static void sheets() {
        WordsLent x = new WordsLent();
        due("sheet, bad", x.sheet(4, 0, 0), -2);
        due("sheet, bad", x.sheet(-1, 0, 0), -2);
        due("sheet, form", x.sheet(0, 3, 0), -2);
        due("sheet, form", x.sheet(0, -1, 0), -2);
        due("sheet, above 60", x.sheet(0, 0, 61), -2);
        due("sheet, bad ahead of size", x.sheet(4, 0, -1), -2);
        due("count(8)", x.count(8), 0);
        due("sheet, size", x.sheet(0, 0, -1), -15);
        due("count(8)", x.count(8), 5);
        due("still lost", x.lose(0), -11);
        due("sheet, empty", x.sheet(0, 0, 0), 0);
        due("sheet, 60", x.sheet(3, 2, 60), 60);
        due("item 59", x.lay(3, 2, 59, 7), 1);
        due("sheet, anew", x.sheet(3, 2, 60), 60);
        due("its items are 0", x.get(3, 2, 59), 0);
        due("sheet, size", x.sheet(3, 1, Integer.MIN_VALUE), -15);
        due("the old row is left", x.get(3, 2, 59), 0);
    }

    private static void losing() {
        WordsLent x = new WordsLent();
        due("lose, bad", x.lose(4), -2);
        due("lose, bad", x.lose(-1), -2);
        due("lose, lost", x.lose(0), -11);
        due("count(8)", x.count(8), 1);
        x.sheet(0, 1, 9);
        due("lose", x.lose(0), 9);
        due("lose, lost", x.lose(0), -11);
        x.sheet(0, 1, 0);
        due("lose, empty", x.lose(0), 0);
    }

    private static void laid(int form, int v, int want) {
        WordsLent x = new WordsLent();
        x.sheet(2, form, 3);
        due("lay", x.lay(2, form, 1, v), 1);
        due("get", x.get(2, form, 1), want);
        due("get, its neighbour", x.get(2, form, 0), 0);
        due("get, its neighbour", x.get(2, form, 2), 0);
    }

    private static void laying() {
        laid(0, 127, 127);
        laid(0, 128, -128);
        laid(0, 511, -1);
        laid(0, -129, 127);
        laid(1, 32767, 32767);
        laid(1, 32768, -32768);
        laid(1, 65535, -1);
        laid(2, 65535, 65535);
        laid(2, LEAST, LEAST);
        WordsLent x = new WordsLent();
        due("lay, bad", x.lay(4, 0, 0, 0), -2);
        due("lay, bad", x.lay(-1, 0, 0, 0), -2);
        due("lay, form", x.lay(0, 3, 0, 0), -2);
        due("lay, form", x.lay(0, -1, 0, 0), -2);
        due("count(8)", x.count(8), 0);
        due("lay, lost", x.lay(0, 0, 99, 0), -11);
        due("count(8)", x.count(8), 1);
        x.sheet(0, 0, 3);
        due("lay, cast ahead of index", x.lay(0, 1, 99, 0), -13);
        due("count(8)", x.count(8), 3);
        due("lay, index", x.lay(0, 0, 3, 0), -12);
        due("count(8)", x.count(8), 2);
        due("lay, index", x.lay(0, 0, -1, 0), -12);
    }

    private static void getting() {
        WordsLent x = new WordsLent();
        due("get, bad", x.get(4, 0, 0), LEAST);
        due("get, bad", x.get(-1, 0, 0), LEAST);
        due("get, form", x.get(0, 3, 0), LEAST);
        due("get, form", x.get(0, -1, 0), LEAST);
        due("count(8)", x.count(8), 0);
        due("get, lost", x.get(0, 0, 0), LEAST);
        due("count(8)", x.count(8), 1);
        x.sheet(0, 2, 1);
        due("get, cast", x.get(0, 1, 5), LEAST);
        due("count(8)", x.count(8), 3);
        due("get, index", x.get(0, 2, 1), LEAST);
        due("count(8)", x.count(8), 2);
        due("get, index", x.get(0, 2, -1), LEAST);
        due("get", x.get(0, 2, 0), 0);
        due("count(8) stays", x.count(8), 2);
    }

    private static WordsLent oneTo(int n) {
        WordsLent x = new WordsLent();
        x.sheet(0, 0, n);
        for (int i = 0; i < n; i++) {
            x.lay(0, 0, i, i + 1);
        }
        return x;
    }

    private static void items(WordsLent x, int s, int... want) {
        for (int i = 0; i < want.length; i++) {
            due("item " + i, x.get(s, 0, i), want[i]);
        }
    }

    private static void copying() {
        WordsLent x = oneTo(6);
        due("copy, on", x.copy(0, 0, 0, 2, 4), 1);
        items(x, 0, 1, 2, 1, 2, 3, 4);
        due("copy, back", x.copy(0, 2, 0, 1, 4), 1);
        items(x, 0, 1, 1, 2, 3, 4, 4);
        x.sheet(1, 0, 3);
        due("copy, to another", x.copy(0, 3, 1, 0, 3), 1);
        items(x, 1, 3, 4, 4);
        due("copy, none, at the ends", x.copy(0, 6, 1, 3, 0), 1);
        items(x, 1, 3, 4, 4);
        x.lose(0);
        x.sheet(0, 0, 6);
        items(x, 0, 0, 0, 0, 0, 0, 0);
        items(x, 1, 3, 4, 4);
    }

    private static void copyingWrong() {
        WordsLent x = oneTo(6);
        due("copy, bad", x.copy(4, 0, 0, 0, 0), -2);
        due("copy, bad", x.copy(-1, 0, 0, 0, 0), -2);
        due("copy, bad", x.copy(0, 0, 4, 0, 0), -2);
        due("copy, bad", x.copy(0, 0, -1, 0, 0), -2);
        due("copy, lost", x.copy(0, 99, 1, 0, 0), -11);
        due("copy, lost", x.copy(1, 99, 0, 0, 0), -11);
        x.sheet(1, 1, 6);
        due("copy, store ahead of index", x.copy(0, 99, 1, 0, 0), -14);
        due("count(8)", x.count(8), 4);
        x.sheet(1, 0, 3);
        int[][] wrong = {{-1, 0, 1}, {0, -1, 1}, {0, 0, -1}, {0, 0, 4}, {4, 0, 3}, {0, 1, 3}, {7, 0, 0}, {0, 4, 0},
            {Integer.MAX_VALUE, 0, 1}, {1, 0, Integer.MAX_VALUE}, {0, 1, Integer.MAX_VALUE},
            {0, 0, LEAST}, {LEAST, 0, 1}};
        for (int[] w : wrong) {
            due("copy, index", x.copy(0, w[0], 1, w[1], w[2]), -12);
        }
        due("count(8)", x.count(8), 2);
        items(x, 1, 0, 0, 0);
    }

    private static void writing() {
        WordsLent x = Check.told("px;px", "105", "b01");
        x.sheet(0, 0, 60);
        x.lay(0, 0, 24, 77);
        due("write, 24 at most", x.write(0, 0), 24);
        int[] want = {5, 4, 4, 4, 4, 4, 5, 5, 5, 5, 5, 5, 5, 6, 6, 6, 6, 6, 6, 6, 7, 7, 7, 7, 77};
        items(x, 0, want);
        x.sheet(1, 0, 2);
        due("write, as many as there are", x.write(0, 1), 2);
        items(x, 1, 5, 4);
        x.sheet(1, 2, 0);
        due("write, none", x.write(0, 1), 0);
        due("write, word", x.write(1, 0), -2);
        due("write, word", x.write(-1, 0), -2);
        due("write, sheet", x.write(0, 4), -2);
        due("write, sheet", x.write(0, -1), -2);
        due("count(8)", x.count(8), 0);
        due("write, bad ahead of lost", x.write(1, 3), -2);
        due("write, lost", x.write(0, 3), -11);
        due("count(8)", x.count(8), 1);
    }

    private static void counting() {
        WordsLent x = Check.told("px;px", "011;101;011", "a01");
        x.echo(0, 0);
        x.echo(0, 0);
        x.tally(0, 0, 0);
        int[] want = {2, 3, 1, 5, 11, 3, 2, 1, 0};
        for (int what = 0; what < 9; what++) {
            due("count(" + what + ")", x.count(what), want[what]);
        }
        due("count, bad", x.count(9), -2);
        due("count, bad", x.count(-1), -2);
    }

    private static long mix(long h, long value, int times) {
        long mixed = h;
        for (int i = 0; i < times; i++) {
            mixed = 31 * mixed + value;
        }
        return mixed;
    }

    private static void digests() {
        WordsLent x = new WordsLent();
        // 8 counts, 3 faults, 36 of meetings, 72 of days, then silent .. lives.
        long h = mix(17, 0, 8);
        h = mix(h, -1, 3 + 36 + 72);
        h = mix(h, 0, 1);
        h = mix(h, -1, 5);
        h = mix(h, 0, 1);
        h = mix(h, -1, 1);
        h = mix(h, 0, 3);
        due("digest, new", x.digest(), h);
        x.lose(0);
        due("digest has no findings", x.digest(), h);
        due("digest makes none", x.count(8), 1);
        x.sheet(0, 0, 9);
        due("digest has no sheets", x.digest(), h);
        x.echo(0, 0);
        due("digest has echoes", x.digest() == h ? 1 : 0, 0);
        x.back();
        due("digest, echoes undone", x.digest(), h);
    }
}

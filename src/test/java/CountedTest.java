/** Promises 22 to 29: tally, forget, never, sort, lent, ask, chance, lives. */
final class CountedTest {
    private static final Check CHECK = new Check("CountedTest");

    public static void main(String[] args) {
        tallies();
        nevers();
        sorts();
        lents();
        asks();
        chances();
        lives();
        CHECK.end();
    }

    private static void due(String call, long got, long want) {
        CHECK.due(call, got, want);
    }

    private static void tallies() {
        WordsLent x = new WordsLent();
        due("tally, day", x.tally(24, 0, 0), -2);
        due("tally, day", x.tally(-1, 0, 0), -2);
        due("tally, word", x.tally(0, 12, 0), -2);
        due("tally, word", x.tally(0, -1, 0), -2);
        due("tally, uses", x.tally(0, 0, 10), -2);
        due("tally, uses", x.tally(0, 0, -1), -2);
        due("forget, none", x.forget(), 0);
        for (int i = 1; i <= 8; i++) {
            due("tally", x.tally(23, 11, 9), i);
        }
        due("tally, full", x.tally(0, 0, 0), -4);
        due("tally, full and bad", x.tally(24, 0, 0), -2);
        due("count(7)", x.count(7), 8);
        due("forget", x.forget(), 8);
        due("count(7)", x.count(7), 0);
        due("tally", x.tally(0, 0, 0), 1);
    }

    private static void nevers() {
        WordsLent x = Check.told("px;px", "103", "a01;b01");
        due("never, no echoes", x.never(), 0);
        x.echo(0, 0);
        x.echo(1, 0);
        x.echo(7, 7);
        due("never, nothing counted", x.never(), 7);
        x.tally(0, 0, 2);
        due("never, the first", x.never(), 1);
        x.tally(1, 0, 2);
        due("never, the first still", x.never(), 1);
        x.tally(1, 0, 1);
        due("never, they contradict", x.never(), 0);
        x.forget();
        x.tally(1, 0, 2);
        due("never, either", x.never(), 3);
        x.tally(1, 1, 2);
        due("never, a word that there is not", x.never(), 0);
    }

    private static int sortsBy(int day, int uses) {
        WordsLent x = Check.told("mx;px", "105", "a01;b01");
        x.tally(day, 0, uses);
        return x.sort(0);
    }

    private static void sorts() {
        due("sort, p", sortsBy(0, 4), 1);
        due("sort, o or m", sortsBy(0, 5), 6);
        due("sort, b", sortsBy(0, 3), 8);
        due("sort, o", sortsBy(1, 4), 2);
        due("sort, m", sortsBy(1, 5), 4);
        due("sort, none", sortsBy(1, 0), 0);
        WordsLent x = Check.told("px;px", "105;017", "a01");
        due("sort, nothing counted", x.sort(1), 15);
        x.tally(6, 0, 6);
        due("sort of who lent it", x.sort(1), 8);
        due("sort of the other one", x.sort(0), 6);
        due("its own sort is left", x.person(1, 0), 0);
        due("sort, none", x.sort(2), -2);
        due("sort, below", x.sort(-1), -2);
    }

    private static int lentBy(int day, int uses) {
        WordsLent x = Check.told("px;px", "105", "a01");
        x.tally(day, 0, uses);
        return x.lent(0);
    }

    private static void lents() {
        due("lent", lentBy(0, 4), 1 << 5);
        due("lent, as many as can be", lentBy(0, 8), 1 << 9);
        due("lent, none", lentBy(0, 9), 0);
        due("lent, paid", lentBy(23, 0), 1 << 1);
        due("lent, nine at most", lentBy(20, 9), 1 << 7 | 1 << 8 | 1 << 9);
        due("lent, nine at most", lentBy(6, 9), 1 << 9);
        WordsLent x = Check.told("px;px", "105;001", "a01");
        due("lent, nothing counted", x.lent(0), 1022);
        x.tally(0, 1, 4);
        due("lent, void", x.lent(1), 1 << 4);
        due("lent, another word's count", x.lent(0), 0);
        x.forget();
        x.tally(0, 1, 1);
        due("lent, another word's count", x.lent(0), 1022);
        due("its own uses are left", x.word(0, 2), 5);
        // By the first WORD's USES the second one is said or not.
        WordsLent two = Check.told("px;px", "105;109", "a01;b01");
        two.tally(1, 1, 8);
        due("lent, by what another is left for", two.lent(0), 1 << 1);
        two.tally(1, 0, 0);
        due("lent, both counts", two.lent(0), 1 << 1);
        two.wipe(1);
        due("sort, of words that are no more", two.sort(0), 0);
        Check.put(two, 1, "101;109");
        due("sort, of words that are again", two.sort(0), 1);
        due("lent, none", two.lent(2), -2);
        due("lent, below", two.lent(-1), -2);
    }

    private static void asks() {
        WordsLent x = Check.told("px;px", "105", "b01;c01");
        due("ask, nothing counted", x.ask(0), 0);
        x.tally(20, 0, 9);
        due("ask", x.ask(0), 0);
        x.tally(20, 0, 8);
        due("ask, of none", x.ask(0), 0);
        due("ask, none", x.ask(1), -2);
        due("ask, below", x.ask(-1), -2);
    }

    private static void chanceIs(WordsLent x, int c, int word, long above, long below) {
        due("chance(" + c + ", " + word + ", 0)", x.chance(c, word, 0), above);
        due("chance(" + c + ", " + word + ", 1)", x.chance(c, word, 1), below);
    }

    private static void chances() {
        WordsLent x = Check.told("px;px", "101;011;019", "a01");
        chanceIs(x, 5, 0, 1, 1);
        chanceIs(x, 5, 2, 0, 1);
        x.echo(0, 0);
        chanceIs(x, 0, 0, 1, 1);
        chanceIs(x, 16, 0, 0, 1);
        chanceIs(x, 8, 0, 1, 2);
        chanceIs(x, 5, 0, 11, 16);
        chanceIs(x, 5, 1, 1, 1);
        x.echo(0, 0);
        chanceIs(x, 5, 0, 121, 256);
        chanceIs(x, 4, 0, 9, 16);
        for (int i = 0; i < 6; i++) {
            x.echo(0, 0);
        }
        chanceIs(x, 1, 0, 2562890625L, 4294967296L);
        chanceIs(x, 15, 0, 1, 4294967296L);
        chanceIs(x, 0, 0, 1, 1);
        chanceIs(x, 16, 0, 0, 1);
        WordsLent two = Check.told("px;px", "102", "a01;b01;c01");
        two.echo(0, 0);
        two.echo(1, 0);
        // Not PAID only if both are: 1 less 25 by 256.
        chanceIs(two, 5, 0, 231, 256);
        two.back();
        chanceIs(two, 5, 0, 1, 1);
        long bad = Long.MIN_VALUE + 2;
        due("chance, c", x.chance(17, 0, 0), bad);
        due("chance, c", x.chance(-1, 0, 0), bad);
        due("chance, word", x.chance(0, 3, 0), bad);
        due("chance, word", x.chance(0, -1, 0), bad);
        due("chance, what", x.chance(0, 0, 2), bad);
        due("chance, what", x.chance(0, 0, -1), bad);
    }

    private static void livesAre(WordsLent x, int seed, int n, int paid, int lost) {
        due("lives(" + seed + ", " + n + ", 0)", x.lives(seed, n, 0), paid);
        due("lives(" + seed + ", " + n + ", 1)", x.lives(seed, n, 1), lost);
    }

    private static void lives() {
        // Of two by SEED 1: DAY 14, 0 and 1; DAY 3, 1 and 1; DAY 2, 1 and 0.
        WordsLent x = Check.told("px;px", "101;011", "a01");
        livesAre(x, 1, 0, 0, 2);
        livesAre(x, 1, 2, 0, 2);
        livesAre(x, 1, 3, 2, 0);
        due("its own meetings are left", x.stands(0, 0, 0), 1);
        x.echo(2, 1);
        livesAre(x, 1, 3, 1, 1);
        // Of three by SEED -1: DAY 1, 2 and 1.
        livesAre(Check.told("px;px;px", "121;101", ""), -1, 1, 1, 1);
        livesAre(Check.told("", "121", ""), -1, 12, 0, 0);
        due("lives, n", x.lives(0, 13, 0), -2);
        due("lives, n", x.lives(0, -1, 0), -2);
        due("lives, what", x.lives(0, 0, 2), -2);
        due("lives, what", x.lives(0, 0, -1), -2);
    }
}

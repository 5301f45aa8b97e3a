import java.util.Random;

/** Long runs of calls, of which many are wrong ones, held against Plain. */
final class RandomTest {
    private static final Check CHECK = new Check("RandomTest");
    private static final Random LOT = new Random(20261118);
    // What later calls of an object answer is free.
    private static final int MOST_CALLS = 512;

    private final WordsLent x = new WordsLent();
    private final Plain y = new Plain();
    private int calls;

    public static void main(String[] args) {
        for (int run = 0; run < 400; run++) {
            new RandomTest().run();
        }
        CHECK.end();
    }

    private void run() {
        tell();
        int echoes = LOT.nextInt(5);
        for (int i = 0; i < echoes; i++) {
            likelyEcho();
        }
        for (int i = 0; i < 60 && calls < MOST_CALLS / 2; i++) {
            call(LOT.nextInt(48));
        }
        askAll();
    }

    private void due(String call, long got, long want) {
        calls++;
        CHECK.due(call, got, want);
    }

    /** A number as told, or now and then one just outside, or far. */
    private static int number(int low, int high) {
        int kind = LOT.nextInt(40);
        if (kind == 0) {
            return low - 1;
        }
        if (kind == 1) {
            return high + 1;
        }
        if (kind == 2) {
            return LOT.nextBoolean() ? Integer.MIN_VALUE : Integer.MAX_VALUE;
        }
        return low + LOT.nextInt(high - low + 1);
    }

    private void type(int text, int b) {
        due("type", x.type(text, b), y.type(text, b));
    }

    private void typeAll(int text, String bytes) {
        for (int i = 0; i < bytes.length(); i++) {
            type(text, bytes.charAt(i));
        }
    }

    private void tell() {
        int people = LOT.nextInt(10) == 0 ? LOT.nextInt(9) : 2 + LOT.nextInt(LOT.nextBoolean() ? 2 : 7);
        int named = Math.min(8, Math.max(2, people + (LOT.nextInt(5) == 0 ? 1 : 0)));
        boolean late = LOT.nextBoolean();
        StringBuilder b = new StringBuilder();
        for (int i = 0; i < people; i++) {
            b.append(i > 0 ? ";" : "").append("ppppombb".charAt(LOT.nextInt(8)));
            b.append((char) ('a' + (late ? 12 + LOT.nextInt(12) : LOT.nextInt(24))));
        }
        typeAll(0, b.toString());
        b.setLength(0);
        int words = LOT.nextInt(10) == 0 ? LOT.nextInt(13) : 1 + LOT.nextInt(12);
        int most = LOT.nextBoolean() ? 9 : 3;
        for (int i = 0; i < words; i++) {
            b.append(i > 0 ? ";" : "").append(LOT.nextInt(named)).append(LOT.nextInt(named));
            b.append(1 + LOT.nextInt(most));
        }
        typeAll(1, b.toString());
        b.setLength(0);
        int meetings = LOT.nextInt(10) == 0 ? LOT.nextInt(13) : 3 + LOT.nextInt(10);
        int days = LOT.nextBoolean() ? 24 : 8;
        for (int i = 0; i < meetings; i++) {
            b.append(i > 0 ? ";" : "").append((char) ('a' + LOT.nextInt(days)));
            b.append(LOT.nextInt(named)).append(LOT.nextInt(named));
        }
        typeAll(2, b.toString());
    }

    private void likelyEcho() {
        int meetings = y.count(2);
        int day = LOT.nextInt(24);
        int person = LOT.nextInt(8);
        if (meetings > 0) {
            int i = LOT.nextInt(meetings);
            day = y.meeting(i, 0);
            person = y.meeting(i, 1 + LOT.nextInt(2));
        }
        due("echo", x.echo(day, person), y.echo(day, person));
    }

    private void likelyTally() {
        int word = LOT.nextInt(Math.max(1, y.count(1)));
        int day = LOT.nextInt(24);
        int uses = Math.max(0, y.stands(day, word, 1));
        due("tally", x.tally(day, word, uses), y.tally(day, word, uses));
    }

    private void call(int which) {
        if (which < 12) {
            callOfTexts(which);
        } else if (which < 20) {
            callOfDays(which);
        } else if (which < 26) {
            callOfPlans(which);
        } else if (which < 37) {
            callOfCounted(which);
        } else {
            callOfSheets(which);
        }
    }

    private void callOfTexts(int which) {
        int text = number(0, 2);
        switch (which) {
            case 0, 1 -> type(text, LOT.nextBoolean() ? "pombax017;9;8y`/".charAt(LOT.nextInt(16)) : number(0, 255));
            case 2 -> {
                if (LOT.nextInt(8) == 0) {
                    due("wipe", x.wipe(text), y.wipe(text));
                    if (LOT.nextBoolean()) {
                        tell();
                    }
                }
            }
            case 3, 4 -> due("undo", x.undo(text), y.undo(text));
            case 5 -> due("fault", x.fault(text), y.fault(text));
            case 6 -> {
                int person = number(0, 7);
                int what = number(0, 1);
                due("person", x.person(person, what), y.person(person, what));
            }
            case 7 -> {
                int word = number(0, 11);
                int what = number(0, 2);
                due("word", x.word(word, what), y.word(word, what));
            }
            case 8 -> {
                int i = number(0, 11);
                int what = number(0, 2);
                due("meeting", x.meeting(i, what), y.meeting(i, what));
            }
            case 9 -> {
                int day = number(0, 23);
                int person = number(0, 7);
                due("echo", x.echo(day, person), y.echo(day, person));
            }
            case 10 -> due("back", x.back(), y.back());
            default -> likelyEcho();
        }
    }

    private void callOfDays(int which) {
        int day = number(0, 23);
        int what = number(0, 1);
        switch (which) {
            case 12, 13 -> {
                int word = number(0, Math.max(0, y.count(1) - 1));
                due("stands", x.stands(day, word, what), y.stands(day, word, what));
            }
            case 14, 15 -> {
                int person = number(0, Math.max(0, y.count(0) - 1));
                int which4 = number(0, 3);
                due("at", x.at(day, person, which4), y.at(day, person, which4));
            }
            case 16 -> {
                int person = number(0, Math.max(0, y.count(0) - 1));
                due("clear", x.clear(person), y.clear(person));
            }
            case 17 -> due("bank", x.bank(day), y.bank(day));
            case 18 -> due("ring", x.ring(day, what), y.ring(day, what));
            default -> due("silent", x.silent(), y.silent());
        }
    }

    private void callOfPlans(int which) {
        switch (which) {
            case 20, 21 -> {
                int day = number(0, 23);
                int what = number(0, 2);
                due("meet", x.meet(day, what), y.meet(day, what));
            }
            case 22 -> {
                int person = number(0, Math.max(0, y.count(0) - 1));
                due("live", x.live(person), y.live(person));
            }
            case 23 -> {
                int what = number(0, 1);
                due("voice", x.voice(what), y.voice(what));
            }
            default -> {
                int i = number(-1, 1);
                due("spare", x.spare(i), y.spare(i));
            }
        }
    }

    private void callOfCounted(int which) {
        int word = number(0, Math.max(0, y.count(1) - 1));
        switch (which) {
            case 26 -> {
                int day = number(0, 23);
                int any = number(0, 11);
                int uses = number(0, 9);
                due("tally", x.tally(day, any, uses), y.tally(day, any, uses));
            }
            case 27, 28, 29 -> likelyTally();
            case 30 -> {
                if (LOT.nextBoolean()) {
                    due("forget", x.forget(), y.forget());
                }
            }
            case 31 -> due("never", x.never(), y.never());
            case 32 -> {
                int person = number(0, Math.max(0, y.count(0) - 1));
                due("sort", x.sort(person), y.sort(person));
            }
            case 33 -> due("lent", x.lent(word), y.lent(word));
            case 34 -> due("ask", x.ask(word), y.ask(word));
            case 35 -> {
                int c = number(0, 16);
                int what = number(0, 1);
                due("chance", x.chance(c, word, what), y.chance(c, word, what));
            }
            default -> {
                int seed = LOT.nextInt();
                int n = number(0, 12);
                int what = number(0, 1);
                due("lives", x.lives(seed, n, what), y.lives(seed, n, what));
            }
        }
    }

    private void callOfSheets(int which) {
        int s = number(0, 3);
        int form = number(0, 2);
        switch (which) {
            case 37, 38 -> {
                int n = LOT.nextInt(3) == 0 ? number(0, 60) : number(0, 8);
                due("sheet", x.sheet(s, form, n), y.sheet(s, form, n));
            }
            case 39 -> due("lose", x.lose(s), y.lose(s));
            case 40, 41 -> {
                int i = number(0, 8);
                int v = LOT.nextBoolean() ? LOT.nextInt() : LOT.nextInt(8);
                due("lay", x.lay(s, form, i, v), y.lay(s, form, i, v));
            }
            case 42 -> {
                int i = number(0, 8);
                due("get", x.get(s, form, i), y.get(s, form, i));
            }
            case 43, 44 -> {
                int i = number(0, 8);
                int t = number(0, 3);
                int j = number(0, 8);
                int n = number(0, 4);
                due("copy", x.copy(s, i, t, j, n), y.copy(s, i, t, j, n));
            }
            case 45 -> {
                int word = number(0, Math.max(0, y.count(1) - 1));
                due("write", x.write(word, s), y.write(word, s));
            }
            case 46 -> due("read", x.read(s), y.read(s));
            default -> {
                int what = number(0, 8);
                due("count", x.count(what), y.count(what));
            }
        }
    }

    private void askAll() {
        due("digest", x.digest(), y.digest());
        for (int what = 0; what < 9; what++) {
            due("count", x.count(what), y.count(what));
        }
        for (int s = 0; s < 4; s++) {
            int form = y.formOf(s);
            int size = y.sizeOf(s);
            for (int i = 0; i < size && calls < MOST_CALLS - 4; i++) {
                due("get", x.get(s, form, i), y.get(s, form, i));
            }
        }
        for (int s = 0; s < 4; s++) {
            due("lose", x.lose(s), y.lose(s));
        }
    }
}

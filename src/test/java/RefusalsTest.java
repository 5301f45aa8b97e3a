import java.util.ArrayList;
import java.util.List;
import java.util.function.Supplier;

/**
 * "Refusals, the first that fits, in the order told at each act .. They change nothing (FINDINGS but
 * count() 8)." Each refused call is held against a twin on which it was never called.
 */
final class RefusalsTest {
    private static final Check CHECK = new Check("RefusalsTest");
    private static final int BAD = -2, NOT = -3, FULL = -4;
    private static final int NULL = -11, INDEX = -12, CAST = -13, STORE = -14, SIZE = -15;
    private static final int LEAST = Integer.MIN_VALUE, GREATEST = Integer.MAX_VALUE;
    private static final long LONG_BAD = Long.MIN_VALUE + 2;

    private interface Call {
        long on(WordsLent x);
    }

    private final Supplier<WordsLent> made;
    private final List<Long> untouched;

    private RefusalsTest(Supplier<WordsLent> made) {
        this.made = made;
        this.untouched = allOf(made.get());
    }

    public static void main(String[] args) {
        RefusalsTest ofNew = new RefusalsTest(WordsLent::new);
        RefusalsTest ofTold = new RefusalsTest(RefusalsTest::told);
        RefusalsTest ofFull = new RefusalsTest(RefusalsTest::full);
        for (RefusalsTest each : List.of(ofNew, ofTold, ofFull)) {
            each.wrongTexts();
            each.wrongThings();
            each.wrongDays();
            each.wrongPlans();
            each.wrongCounts();
            each.wrongSheets();
            each.lostSheets();
        }
        ofNew.notThere();
        ofNew.noSuchThing(0, 0);
        ofTold.noSuchThing(3, 4);
        ofFull.noSuchThing(8, 12);
        ofTold.findings();
        ofTold.wrongCopies();
        ofFull.noRoom();
        ofFull.noRoomAndBad();
        CHECK.end();
    }

    /** Each of the SHEETS 0 to 2 has another FORM; SHEET 3 is LOST. */
    private static WordsLent told() {
        WordsLent x = Check.told("px;of;bx", "102;013;201;125", "a01;c12;g01");
        x.echo(2, 1);
        x.tally(5, 0, 1);
        for (int s = 0; s < 3; s++) {
            x.sheet(s, s, 3);
            x.lay(s, s, 2, 40 + s);
        }
        return x;
    }

    private static WordsLent full() {
        WordsLent x = Check.full();
        for (int i = 0; i < 8; i++) {
            x.echo(i, i);
            x.tally(i, 0, 2);
        }
        x.sheet(0, 0, 4);
        x.sheet(1, 1, 4);
        return x;
    }

    /** All that can be told of an object, by calls that at last leave nothing of it: less than 400. */
    private static List<Long> allOf(WordsLent x) {
        List<Long> all = new ArrayList<>();
        all.add(x.digest());
        for (int s = 0; s < 4; s++) {
            for (int form = 0; form < 3; form++) {
                for (int i = 0; i < 4; i++) {
                    all.add((long) x.get(s, form, i));
                }
            }
            all.add((long) x.lose(s));
        }
        for (int i = 0; i < 9; i++) {
            all.add((long) x.silent());
            all.add((long) x.back());
        }
        all.add((long) x.forget());
        for (int text = 0; text < 3; text++) {
            all.add((long) x.count(text));
            for (int i = 0; i < 48; i++) {
                all.add((long) x.undo(text));
            }
        }
        return all;
    }

    /** What it answers, that a FINDING alone is told by count() 8, and that nothing else is changed. */
    private void refused(String name, Call call, long want) {
        WordsLent x = made.get();
        int before = x.count(8);
        CHECK.due(name, call.on(x), want);
        boolean isFinding = want <= NULL && want >= SIZE;
        CHECK.due(name + ", count(8)", x.count(8), isFinding ? -10 - want : before);
        CHECK.due(name + ", what it leaves", allOf(x).equals(untouched) ? 1 : 0, 1);
    }

    private void got(String name, Call call, int finding) {
        WordsLent x = made.get();
        int before = x.count(8);
        CHECK.due(name, call.on(x), LEAST);
        CHECK.due(name + ", count(8)", x.count(8), finding == BAD ? before : -10 - finding);
        CHECK.due(name + ", what it leaves", allOf(x).equals(untouched) ? 1 : 0, 1);
    }

    private void wrongTexts() {
        for (int text : new int[] {-1, 3, LEAST, GREATEST}) {
            refused("type, no such text", x -> x.type(text, 'p'), BAD);
            refused("wipe, no such text", x -> x.wipe(text), BAD);
            refused("undo, no such text", x -> x.undo(text), BAD);
            refused("fault, no such text", x -> x.fault(text), BAD);
        }
        for (int b : new int[] {-1, 256, LEAST, GREATEST}) {
            for (int text = 0; text < 3; text++) {
                int which = text;
                refused("type, no byte", x -> x.type(which, b), BAD);
            }
        }
    }

    private void wrongThings() {
        for (int wrong : new int[] {-1, 12, LEAST, GREATEST}) {
            refused("person, none", x -> x.person(wrong, 0), BAD);
            refused("person, what", x -> x.person(0, wrong), BAD);
            refused("word, none", x -> x.word(wrong, 0), BAD);
            refused("word, what", x -> x.word(0, wrong), BAD);
            refused("meeting, none", x -> x.meeting(wrong, 0), BAD);
            refused("meeting, what", x -> x.meeting(0, wrong), BAD);
            refused("echo, person", x -> x.echo(0, wrong), BAD);
        }
        refused("person, what", x -> x.person(0, 2), BAD);
        refused("word, what", x -> x.word(0, 3), BAD);
        refused("meeting, what", x -> x.meeting(0, 3), BAD);
        refused("meeting, what, of none", x -> x.meeting(11, 3), BAD);
        refused("echo, person", x -> x.echo(0, 8), BAD);
        for (int day : new int[] {-1, 24, LEAST, GREATEST}) {
            refused("echo, day", x -> x.echo(day, 0), BAD);
        }
    }

    private void wrongDays() {
        for (int day : new int[] {-1, 24, LEAST, GREATEST}) {
            refused("stands, day", x -> x.stands(day, 0, 0), BAD);
            refused("at, day", x -> x.at(day, 0, 0), BAD);
            refused("bank, day", x -> x.bank(day), BAD);
            refused("ring, day", x -> x.ring(day, 0), BAD);
            refused("meet, day", x -> x.meet(day, 0), BAD);
            refused("tally, day", x -> x.tally(day, 0, 0), BAD);
        }
        for (int wrong : new int[] {-1, 12, LEAST, GREATEST}) {
            refused("stands, word", x -> x.stands(0, wrong, 0), BAD);
            refused("stands, what", x -> x.stands(0, 0, wrong), BAD);
            refused("at, person", x -> x.at(0, wrong, 0), BAD);
            refused("at, what", x -> x.at(0, 0, wrong), BAD);
            refused("clear, person", x -> x.clear(wrong), BAD);
            refused("ring, what", x -> x.ring(0, wrong), BAD);
        }
        refused("stands, what", x -> x.stands(0, 0, 2), BAD);
        refused("at, what", x -> x.at(0, 0, 4), BAD);
        refused("ring, what", x -> x.ring(0, 2), BAD);
    }

    private void wrongPlans() {
        for (int wrong : new int[] {-1, 12, LEAST, GREATEST}) {
            refused("meet, what", x -> x.meet(0, wrong), BAD);
            refused("live, person", x -> x.live(wrong), BAD);
            refused("voice, what", x -> x.voice(wrong), BAD);
            refused("spare, i", x -> x.spare(wrong == -1 ? -2 : wrong), BAD);
        }
        refused("meet, what", x -> x.meet(0, 3), BAD);
        refused("voice, what", x -> x.voice(2), BAD);
        refused("spare, i", x -> x.spare(2), BAD);
    }

    private void wrongCounts() {
        for (int wrong : new int[] {-1, 13, LEAST, GREATEST}) {
            refused("tally, word", x -> x.tally(0, wrong, 0), BAD);
            refused("tally, uses", x -> x.tally(0, 0, wrong), BAD);
            refused("sort, person", x -> x.sort(wrong), BAD);
            refused("lent, word", x -> x.lent(wrong), BAD);
            refused("ask, word", x -> x.ask(wrong), BAD);
            refused("chance, word", x -> x.chance(0, wrong, 0), LONG_BAD);
            refused("chance, what", x -> x.chance(0, 0, wrong), LONG_BAD);
            refused("chance, c", x -> x.chance(wrong == 13 ? 17 : wrong, 0, 0), LONG_BAD);
            refused("lives, n", x -> x.lives(0, wrong, 0), BAD);
            refused("lives, what", x -> x.lives(0, 0, wrong), BAD);
            refused("count, what", x -> x.count(wrong), BAD);
        }
        refused("tally, word", x -> x.tally(0, 12, 0), BAD);
        refused("tally, uses", x -> x.tally(0, 0, 10), BAD);
        refused("chance, what", x -> x.chance(0, 0, 2), LONG_BAD);
        refused("lives, what", x -> x.lives(0, 0, 2), BAD);
        refused("count, what", x -> x.count(9), BAD);
    }

    /** SHEET, FORM come first: ahead of NULL, CAST, STORE, INDEX and SIZE, which fit here, too. */
    private void wrongSheets() {
        for (int s : new int[] {-1, 4, LEAST, GREATEST}) {
            refused("read, sheet", x -> x.read(s), BAD);
            refused("sheet, sheet", x -> x.sheet(s, 0, -1), BAD);
            refused("sheet, form", x -> x.sheet(0, s, -1), BAD);
            refused("lose, sheet", x -> x.lose(s), BAD);
            refused("lay, sheet", x -> x.lay(s, 0, -1, 0), BAD);
            refused("lay, form", x -> x.lay(3, s, -1, 0), BAD);
            refused("copy, from", x -> x.copy(s, -1, 3, -1, -1), BAD);
            refused("copy, to", x -> x.copy(3, -1, s, -1, -1), BAD);
            refused("write, sheet", x -> x.write(0, s), BAD);
            refused("write, word, of a lost sheet", x -> x.write(s == 4 ? 12 : s, 3), BAD);
            got("get, sheet", x -> x.get(s, 0, -1), BAD);
            got("get, form", x -> x.get(3, s, -1), BAD);
        }
        refused("sheet, form", x -> x.sheet(0, 3, -1), BAD);
        refused("lay, form", x -> x.lay(0, 3, -1, 0), BAD);
        got("get, form", x -> x.get(0, 3, -1), BAD);
        refused("sheet, above 60", x -> x.sheet(0, 0, 61), BAD);
        refused("sheet, above 60", x -> x.sheet(3, 2, GREATEST), BAD);
        refused("sheet, size", x -> x.sheet(0, 0, -1), SIZE);
        refused("sheet, size", x -> x.sheet(3, 2, LEAST), SIZE);
    }

    /** SHEET 3 is LOST in each: NULL comes ahead of CAST, STORE and INDEX. */
    private void lostSheets() {
        refused("read, lost", x -> x.read(3), NULL);
        refused("lose, lost", x -> x.lose(3), NULL);
        for (int form = 0; form < 3; form++) {
            int as = form;
            refused("lay, lost", x -> x.lay(3, as, 0, 1), NULL);
            refused("lay, lost, no such item", x -> x.lay(3, as, 99, 1), NULL);
            got("get, lost", x -> x.get(3, as, 0), NULL);
            got("get, lost, no such item", x -> x.get(3, as, -1), NULL);
        }
        refused("copy, both lost", x -> x.copy(3, 0, 3, 0, 0), NULL);
        refused("copy, from a lost one", x -> x.copy(3, -1, 0, -1, -1), NULL);
        refused("copy, to a lost one", x -> x.copy(0, -1, 3, -1, -1), NULL);
    }

    /** "NOT: it is empty", "NOT: there is none" */
    private void notThere() {
        for (int text = 0; text < 3; text++) {
            int which = text;
            refused("undo, empty", x -> x.undo(which), NOT);
        }
        refused("back, none", x -> x.back(), NOT);
    }

    /** The first PERSON and the first WORD that there is not: "no such thing", also where nothing is. */
    private void noSuchThing(int people, int words) {
        refused("person", x -> x.person(people, 0), BAD);
        refused("at", x -> x.at(0, people, 0), BAD);
        refused("clear", x -> x.clear(people), BAD);
        refused("live", x -> x.live(people), BAD);
        refused("sort", x -> x.sort(people), BAD);
        refused("word", x -> x.word(words, 0), BAD);
        refused("stands", x -> x.stands(0, words, 0), BAD);
        refused("lent", x -> x.lent(words), BAD);
        refused("ask", x -> x.ask(words), BAD);
        refused("chance", x -> x.chance(0, words, 0), LONG_BAD);
        refused("write", x -> x.write(words, 0), BAD);
        refused("write, to a lost sheet", x -> x.write(words, 3), BAD);
        if (words > 0) {
            refused("write, the last word to a lost sheet", x -> x.write(words - 1, 3), NULL);
        }
    }

    /** CAST ahead of INDEX. */
    private void findings() {
        for (int s = 0; s < 3; s++) {
            int sheet = s;
            for (int form = 0; form < 3; form++) {
                int as = form;
                int[] items = {-1, 3, LEAST, GREATEST};
                for (int i : items) {
                    refused("lay, no such item", x -> x.lay(sheet, as, i, 9), as == sheet ? INDEX : CAST);
                    got("get, no such item", x -> x.get(sheet, as, i), as == sheet ? INDEX : CAST);
                }
                if (form != s) {
                    refused("lay, cast", x -> x.lay(sheet, as, 0, 9), CAST);
                    got("get, cast", x -> x.get(sheet, as, 0), CAST);
                }
            }
        }
    }

    /** STORE ahead of INDEX. */
    private void wrongCopies() {
        refused("copy, store", x -> x.copy(0, 0, 1, 0, 1), STORE);
        refused("copy, store", x -> x.copy(2, 0, 1, 0, 1), STORE);
        refused("copy, store, nothing", x -> x.copy(0, 0, 2, 0, 0), STORE);
        refused("copy, store, no such items", x -> x.copy(0, -1, 2, 9, 9), STORE);
        int[][] wrong = {{-1, 0, 1}, {0, -1, 1}, {0, 0, -1}, {0, 0, 4}, {1, 0, 3}, {0, 1, 3}, {3, 0, 1}, {0, 3, 1},
            {4, 0, 0}, {0, 4, 0}, {GREATEST, 0, 1}, {0, GREATEST, 1}, {1, 1, GREATEST}, {LEAST, LEAST, LEAST}};
        for (int[] w : wrong) {
            refused("copy, index", x -> x.copy(1, w[0], 1, w[1], w[2]), INDEX);
        }
    }

    private void noRoom() {
        for (int text = 0; text < 3; text++) {
            int which = text;
            refused("type, full", x -> x.type(which, ';'), FULL);
            refused("type, full", x -> x.type(which, 0), FULL);
            refused("type, full", x -> x.type(which, 255), FULL);
        }
        refused("echo, full", x -> x.echo(0, 0), FULL);
        refused("echo, full", x -> x.echo(23, 7), FULL);
        refused("tally, full", x -> x.tally(0, 0, 0), FULL);
        refused("tally, full", x -> x.tally(23, 11, 9), FULL);
    }

    /** BAD ahead of FULL. */
    private void noRoomAndBad() {
        for (int text = 0; text < 3; text++) {
            int which = text;
            refused("type, full and bad", x -> x.type(which, 256), BAD);
            refused("type, full and bad", x -> x.type(which, -1), BAD);
        }
        refused("echo, full and bad", x -> x.echo(24, 0), BAD);
        refused("echo, full and bad", x -> x.echo(0, 8), BAD);
        refused("tally, full and bad", x -> x.tally(24, 0, 0), BAD);
        refused("tally, full and bad", x -> x.tally(0, 12, 0), BAD);
        refused("tally, full and bad", x -> x.tally(0, 0, 10), BAD);
    }
}

/** Promises 1 to 11: a new object, people, words, meetings, echoes. */
final class TextsTest {
    private static final Check CHECK = new Check("TextsTest");

    public static void main(String[] args) {
        newObject();
        typing();
        undoing();
        faultsOfPeople();
        faultsOfWords();
        faultsOfMeetings();
        faultMeansEmpty();
        persons();
        words();
        meetings();
        echoes();
        readEchoes();
        CHECK.end();
    }

    private static void due(String call, long got, long want) {
        CHECK.due(call, got, want);
    }

    private static void newObject() {
        WordsLent x = new WordsLent();
        for (int what = 0; what < 9; what++) {
            due("new: count(" + what + ")", x.count(what), 0);
        }
        for (int text = 0; text < 3; text++) {
            due("new: fault", x.fault(text), -1);
        }
        for (int s = 0; s < 4; s++) {
            due("new: lose", x.lose(s), -11);
        }
    }

    private static void typing() {
        int[] room = {23, 47, 47};
        for (int text = 0; text < 3; text++) {
            WordsLent x = new WordsLent();
            for (int i = 1; i <= room[text]; i++) {
                due("type " + i, x.type(text, i % 2 == 0 ? 0 : 255), i);
            }
            due("type, full", x.type(text, 0), -4);
            due("type, full and bad", x.type(text, 256), -2);
            due("count", x.count(3 + text), room[text]);
            due("wipe", x.wipe(text), room[text]);
            due("wipe, empty", x.wipe(text), 0);
            due("count", x.count(3 + text), 0);
        }
        WordsLent x = new WordsLent();
        due("type, no text", x.type(-1, 0), -2);
        due("type, no text", x.type(3, 0), -2);
        due("type, no byte", x.type(0, -1), -2);
        due("type, no byte", x.type(0, 256), -2);
        due("wipe, no text", x.wipe(-1), -2);
        due("wipe, no text", x.wipe(3), -2);
        due("count", x.count(3), 0);
    }

    private static void undoing() {
        WordsLent x = Check.told("pa;mb", "", "");
        due("undo", x.undo(0), 4);
        due("fault", x.fault(0), 4);
        due("count(0)", x.count(0), 0);
        due("undo", x.undo(0), 3);
        due("fault", x.fault(0), 3);
        due("undo", x.undo(0), 2);
        due("fault", x.fault(0), -1);
        due("count(0)", x.count(0), 1);
        due("undo", x.undo(0), 1);
        due("undo", x.undo(0), 0);
        due("undo, empty", x.undo(0), -3);
        due("undo, empty", x.undo(2), -3);
        due("undo, no text", x.undo(-1), -2);
        due("undo, no text", x.undo(3), -2);
    }

    private static void faultIs(int text, String bytes, int want) {
        WordsLent x = new WordsLent();
        Check.put(x, text, bytes);
        due("fault of " + bytes, x.fault(text), want);
    }

    private static void faultsOfPeople() {
        faultIs(0, "", -1);
        faultIs(0, "p", 1);
        faultIs(0, "pa", -1);
        faultIs(0, "ox;mx;bx", -1);
        faultIs(0, ";", 0);
        faultIs(0, "qa", 0);
        faultIs(0, "Pa", 0);
        faultIs(0, "p`", 1);
        faultIs(0, "py", 1);
        faultIs(0, "pA", 1);
        faultIs(0, "pap", 2);
        faultIs(0, "pa;", 3);
        faultIs(0, "pa;;", 3);
        faultIs(0, "pa;a", 3);
        faultIs(0, "pa;p;zz", 4);
        faultIs(0, "pa ", 2);
        faultIs(0, "pa;pa;pa;pa;pa;pa;pa;pa", -1);
        WordsLent x = new WordsLent();
        due("fault, no text", x.fault(-1), -2);
        due("fault, no text", x.fault(3), -2);
    }

    private static void faultsOfWords() {
        faultIs(1, "0", 1);
        faultIs(1, "01", 2);
        faultIs(1, "011", -1);
        faultIs(1, "779;001", -1);
        faultIs(1, "811", 0);
        faultIs(1, "/11", 0);
        faultIs(1, "081", 1);
        faultIs(1, "010", 2);
        faultIs(1, "01:", 2);
        faultIs(1, "0111", 3);
        faultIs(1, "011;", 4);
        faultIs(1, "011;8", 4);
        faultIs(1, "a11", 0);
    }

    private static void faultsOfMeetings() {
        faultIs(2, "a", 1);
        faultIs(2, "a0", 2);
        faultIs(2, "a01", -1);
        faultIs(2, "x77;a00", -1);
        faultIs(2, "y01", 0);
        faultIs(2, "`01", 0);
        faultIs(2, "a81", 1);
        faultIs(2, "a08", 2);
        faultIs(2, "a0/", 2);
        faultIs(2, "a01a", 3);
        faultIs(2, "a01;", 4);
    }

    private static void faultMeansEmpty() {
        WordsLent x = Check.told("px;px", "012", "a01");
        due("count(0)", x.count(0), 2);
        due("stands", x.stands(0, 0, 1), 1);
        x.type(0, ';');
        due("count(0), with a fault", x.count(0), 0);
        due("count(3), with a fault", x.count(3), 6);
        due("person, with a fault", x.person(0, 0), -2);
        due("stands, of no people", x.stands(0, 0, 0), 4);
        x.undo(0);
        x.type(2, ';');
        due("count(2), with a fault", x.count(2), 0);
        due("meeting, with a fault", x.meeting(0, 0), -1);
        due("stands, without meetings", x.stands(0, 0, 1), 2);
        x.undo(2);
        due("stands", x.stands(0, 0, 1), 1);
        x.type(1, '0');
        due("count(1), with a fault", x.count(1), 0);
        due("word, with a fault", x.word(0, 0), -2);
    }

    private static void persons() {
        WordsLent x = Check.told("pa;ob;mw;bx", "", "");
        int[] dies = {0, 1, 22, 23};
        for (int i = 0; i < 4; i++) {
            due("person sort", x.person(i, 0), i);
            due("person dies", x.person(i, 1), dies[i]);
        }
        due("person, none", x.person(4, 0), -2);
        due("person, below", x.person(-1, 0), -2);
        due("person, what", x.person(0, 2), -2);
        due("person, what", x.person(0, -1), -2);
    }

    private static void words() {
        WordsLent x = Check.told("", "079;701;332", "");
        int[][] want = {{0, 7, 9}, {7, 0, 1}, {3, 3, 2}};
        for (int i = 0; i < 3; i++) {
            for (int what = 0; what < 3; what++) {
                due("word", x.word(i, what), want[i][what]);
            }
        }
        due("word, none", x.word(3, 0), -2);
        due("word, below", x.word(-1, 0), -2);
        due("word, what", x.word(0, 3), -2);
        due("word, what", x.word(0, -1), -2);
    }

    private static void meetings() {
        WordsLent x = Check.told("", "", "a01;x76;c55");
        int[][] want = {{0, 0, 1}, {23, 7, 6}, {2, 5, 5}};
        for (int i = 0; i < 3; i++) {
            for (int what = 0; what < 3; what++) {
                due("meeting", x.meeting(i, what), want[i][what]);
            }
        }
        due("meeting, none", x.meeting(3, 0), -1);
        due("meeting, none", x.meeting(11, 2), -1);
        due("meeting, bad", x.meeting(12, 0), -2);
        due("meeting, bad", x.meeting(-1, 0), -2);
        due("meeting, what", x.meeting(11, 3), -2);
        due("meeting, what", x.meeting(0, -1), -2);
    }

    private static void echoes() {
        WordsLent x = new WordsLent();
        due("back, none", x.back(), -3);
        due("echo, bad", x.echo(24, 0), -2);
        due("echo, bad", x.echo(-1, 0), -2);
        due("echo, bad", x.echo(0, 8), -2);
        due("echo, bad", x.echo(0, -1), -2);
        for (int i = 1; i <= 8; i++) {
            due("echo", x.echo(23, 7), i);
        }
        due("echo, full", x.echo(0, 0), -4);
        due("echo, full and bad", x.echo(24, 0), -2);
        due("back", x.back(), 7);
        due("echo", x.echo(0, 0), 8);
        for (int i = 7; i >= 0; i--) {
            due("back", x.back(), i);
        }
        due("back, none", x.back(), -3);

        WordsLent y = Check.told("px;px", "102", "a01");
        due("said and paid", y.stands(0, 0, 1), 1);
        y.echo(0, 0);
        due("said, not paid", y.stands(0, 0, 1), 2);
        due("said", y.at(0, 0, 3), 1);
        y.back();
        due("said and paid", y.stands(0, 0, 1), 1);
        y.echo(0, 1);
        due("another one's echo", y.stands(0, 0, 1), 1);
        y.echo(1, 0);
        due("another day's echo", y.stands(0, 0, 1), 1);
    }

    private static void readEchoes() {
        WordsLent x = new WordsLent();
        due("read, bad", x.read(4), -2);
        due("read, bad", x.read(-1), -2);
        due("read, lost", x.read(3), -11);
        due("count(8)", x.count(8), 1);
        x.sheet(0, 0, 5);
        int[] items = {23, 7, 0, 1, 2};
        for (int i = 0; i < 5; i++) {
            x.lay(0, 0, i, items[i]);
        }
        due("read, the odd one is left", x.read(0), 2);
        due("count(6)", x.count(6), 2);
        x.lay(0, 0, 1, 8);
        due("read, none may be", x.read(0), 0);
        x.lay(0, 0, 1, -1);
        due("read, none may be", x.read(0), 0);
        x.lay(0, 0, 1, 0);
        x.lay(0, 0, 2, 24);
        due("read, as long as each may be", x.read(0), 1);
        due("count(6)", x.count(6), 3);
        x.sheet(1, 2, 60);
        due("read, as there is room", x.read(1), 5);
        due("read, no room", x.read(1), 0);
        due("count(6)", x.count(6), 8);
        x.sheet(2, 1, 1);
        x.back();
        due("read, one item", x.read(2), 0);

        WordsLent y = Check.told("px;px", "102", "a01");
        due("stands", y.stands(0, 0, 1), 1);
        y.sheet(0, 0, 2);
        due("read", y.read(0), 1);
        due("stands, behind read", y.stands(0, 0, 1), 2);
        WordsLent z = Check.told("px;px", "102;012", "a01");
        z.sheet(0, 1, 2);
        z.lay(0, 1, 1, 1);
        due("read", z.read(0), 1);
        due("the first item is a day, the second one a person", z.stands(0, 0, 1), 1);
        due("the first item is a day, the second one a person", z.stands(0, 1, 1), 2);
    }
}

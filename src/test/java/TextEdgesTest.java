/** Promises 1 to 11: each sentence of the document that names an edge of texts and echoes. */
final class TextEdgesTest {
    private static final Check CHECK = new Check("TextEdgesTest");
    private static final String LETTERS = "abcdefghijklmnopqrstuvwx";
    private static final String FIGURES = "01234567";
    private static final String[] SOUND = {"pa;pa", "011;011", "a01;a01"};
    private static final String[][] MAY_STAND = {
        {"pomb", LETTERS, ";"}, {FIGURES, FIGURES, "123456789", ";"}, {LETTERS, FIGURES, FIGURES, ";"}};
    private static final int[] ROOM = {23, 47, 47};
    private static final int[] MOST = {8, 12, 12};

    public static void main(String[] args) {
        newObject();
        bytesOfEachText();
        everyByteAtEveryPlace();
        everyPersonTold();
        everyWordTold();
        everyMeetingTold();
        fullTexts();
        faultsOfFullTexts();
        firstByteIsTheFault();
        notEnded();
        peopleWithFault();
        wordsWithFault();
        meetingsWithFault();
        wipesOneAlone();
        undoesTheLast();
        echoesOfAnyDayAndPerson();
        backUndoesTheLast();
        readWholePairs();
        readAsLongAsEachMayBe();
        readAsThereIsRoom();
        readOfEachForm();
        fiveHundredAndTwelveCalls();
        CHECK.end();
    }

    private static void due(String call, long got, long want) {
        CHECK.due(call, got, want);
    }

    /** "No PEOPLE, no WORDS, no MEETINGS; all SHEETS are LOST." */
    private static void newObject() {
        WordsLent x = new WordsLent();
        due("new: person", x.person(0, 0), -2);
        due("new: word", x.word(0, 0), -2);
        for (int i = 0; i < 12; i++) {
            due("new: meeting", x.meeting(i, 0), -1);
        }
        due("new: back", x.back(), -3);
        due("new: forget", x.forget(), 0);
        due("new: no finding", x.count(8), 0);
        for (int s = 0; s < 4; s++) {
            due("new: read", x.read(s), -11);
            due("new: lay", x.lay(s, 0, 0, 0), -11);
            due("new: copy", x.copy(s, 0, s, 0, 0), -11);
        }
    }

    /** "up to 23 bytes", "up to 47 bytes"; "A byte (0 to 255) comes behind a text: how many." */
    private static void bytesOfEachText() {
        for (int text = 0; text < 3; text++) {
            WordsLent x = new WordsLent();
            for (int b = 0; b < ROOM[text]; b++) {
                due("type, byte " + b, x.type(text, b), b + 1);
            }
            due("type, one too many", x.type(text, 255), -4);
            due("type, full, is not lost", x.count(3 + text), ROOM[text]);
            due("undo makes room", x.undo(text), ROOM[text] - 1);
            due("type, 255", x.type(text, 255), ROOM[text]);
            due("type, full again", x.type(text, 0), -4);
            for (int other = 0; other < 3; other++) {
                due("bytes of text " + other, x.count(3 + other), other == text ? ROOM[text] : 0);
            }
        }
    }

    /** "p, o, m or b, and a letter a to x", "a figure 0 to 7", "a figure 1 to 9", "; between them". */
    private static void everyByteAtEveryPlace() {
        for (int text = 0; text < 3; text++) {
            for (int place = 0; place < SOUND[text].length(); place++) {
                String before = SOUND[text].substring(0, place);
                String may = MAY_STAND[text][place % MAY_STAND[text].length];
                for (int b = 0; b < 256; b++) {
                    WordsLent x = new WordsLent();
                    Check.put(x, text, before + (char) b);
                    boolean isEnd = (place + 2) % MAY_STAND[text].length == 0;
                    int well = isEnd ? -1 : place + 1;
                    due("fault of " + before + (char) b, x.fault(text), may.indexOf(b) >= 0 ? well : place);
                }
            }
        }
    }

    private static void everyPersonTold() {
        for (int sort = 0; sort < 4; sort++) {
            for (int day = 0; day < 24; day++) {
                WordsLent x = Check.told("pa;" + "pomb".charAt(sort) + LETTERS.charAt(day), "", "");
                due("its sort", x.person(1, 0), sort);
                due("its day", x.person(1, 1), day);
            }
        }
    }

    private static void everyWordTold() {
        for (int i = 0; i < 8 * 8 * 9; i++) {
            int lender = i / 72;
            int debtor = i / 9 % 8;
            int uses = i % 9 + 1;
            WordsLent x = Check.told("", "" + lender + debtor + uses, "");
            due("who lent it", x.word(0, 0), lender);
            due("to whom", x.word(0, 1), debtor);
            due("for how many uses", x.word(0, 2), uses);
        }
    }

    private static void everyMeetingTold() {
        for (int i = 0; i < 24 * 8 * 8; i++) {
            int day = i / 64;
            int first = i / 8 % 8;
            int other = i % 8;
            WordsLent x = Check.told("", "", "" + LETTERS.charAt(day) + first + other);
            due("its day", x.meeting(0, 0), day);
            due("the first", x.meeting(0, 1), first);
            due("the other one", x.meeting(0, 2), other);
        }
    }

    /** "8 at most (0 on)", "12 at most (0 on)": a ninth PERSON, a thirteenth WORD has no room to begin. */
    private static void fullTexts() {
        WordsLent x = Check.full();
        for (int text = 0; text < 3; text++) {
            due("bytes", x.count(3 + text), ROOM[text]);
            due("how many", x.count(text), MOST[text]);
            due("fault, full", x.fault(text), -1);
            due("; behind a full one", x.type(text, ';'), -4);
            due("fault, still full", x.fault(text), -1);
            due("how many, still", x.count(text), MOST[text]);
        }
        due("the last person's sort", x.person(7, 0), 0);
        due("the last person's day", x.person(7, 1), 22);
        due("a ninth person", x.person(8, 0), -2);
        due("the last word", x.word(11, 0) * 100 + x.word(11, 1) * 10 + x.word(11, 2), 74);
        due("a thirteenth word", x.word(12, 0), -2);
        due("the last meeting", x.meeting(11, 0) * 100 + x.meeting(11, 1) * 10 + x.meeting(11, 2), 1167);
        due("a thirteenth meeting", x.meeting(12, 0), -2);
    }

    private static void faultsOfFullTexts() {
        for (int text = 0; text < 3; text++) {
            WordsLent x = Check.full();
            int last = ROOM[text] - 1;
            x.undo(text);
            due("fault, the last byte is not there", x.fault(text), last);
            due("how many", x.count(text), 0);
            due("type, the last byte", x.type(text, '!'), last + 1);
            due("fault, the last byte", x.fault(text), last);
            x.undo(text);
            x.undo(text);
            due("how many bytes", x.count(3 + text), last - 1);
            due("type a ;", x.type(text, ';'), last);
            due("fault, the last but one", x.fault(text), last - 1);
        }
    }

    /** "the place of the first byte with which it cannot go on": what comes behind it changes nothing. */
    private static void firstByteIsTheFault() {
        for (int text = 0; text < 3; text++) {
            WordsLent x = new WordsLent();
            String sound = SOUND[text];
            Check.put(x, text, sound + "??" + sound);
            due("fault, of two", x.fault(text), sound.length());
            for (int i = 0; i < sound.length() + 1; i++) {
                x.undo(text);
                due("fault, still", x.fault(text), sound.length());
            }
            x.undo(text);
            due("fault, undone", x.fault(text), -1);
            due("how many", x.count(text), 2);
            x.wipe(text);
            x.type(text, '?');
            due("fault, at once", x.fault(text), 0);
            x.wipe(text);
            due("fault, wiped", x.fault(text), -1);
            Check.put(x, text, sound);
            due("fault, anew", x.fault(text), -1);
            due("how many, anew", x.count(text), 2);
        }
    }

    /** "an empty one is well; of one that is not ended, as behind a ;, its end" */
    private static void notEnded() {
        for (int text = 0; text < 3; text++) {
            int span = MAY_STAND[text].length;
            WordsLent x = new WordsLent();
            due("fault, empty", x.fault(text), -1);
            for (int i = 1; i <= SOUND[text].length(); i++) {
                x.type(text, SOUND[text].charAt(i - 1));
                boolean ended = i % span == span - 1;
                due("fault, of " + i + " bytes", x.fault(text), ended ? -1 : i);
                due("how many, of " + i + " bytes", x.count(text), ended ? (i + 1) / span : 0);
            }
        }
    }

    /** "With a FAULT a text is as if it was empty." */
    private static void peopleWithFault() {
        WordsLent x = Check.told("px;px", "101", "a01");
        due("paid", x.stands(0, 0, 0), 1);
        x.type(0, ';');
        due("people", x.count(0), 0);
        due("bytes", x.count(3), 6);
        due("person", x.person(0, 0), -2);
        due("at", x.at(0, 0, 0), -2);
        due("clear", x.clear(0), -2);
        due("live", x.live(0), -2);
        due("sort", x.sort(0), -2);
        due("void", x.stands(0, 0, 0), 4);
        due("left as told", x.stands(0, 0, 1), 1);
        due("bank", x.bank(0), -1);
        due("silent", x.silent(), 0);
        due("meet", x.meet(0, 2), -1);
        due("voice", x.voice(1), -1);
        due("lives", x.lives(1, 12, 0), 0);
        due("undo", x.undo(0), 5);
        due("paid again", x.stands(0, 0, 0), 1);
    }

    private static void wordsWithFault() {
        WordsLent x = Check.told("pa;pb", "101", "");
        x.sheet(0, 0, 1);
        x.tally(0, 0, 1);
        due("lost", x.clear(0), -1);
        due("lent", x.lent(0), 1 << 1);
        x.type(1, '1');
        due("words", x.count(1), 0);
        due("bytes", x.count(4), 4);
        due("word", x.word(0, 0), -2);
        due("stands", x.stands(0, 0, 0), -2);
        due("lent", x.lent(0), -2);
        due("ask", x.ask(0), -2);
        due("chance", x.chance(0, 0, 0), Long.MIN_VALUE + 2);
        due("write", x.write(0, 0), -2);
        due("clear", x.clear(0), 0);
        due("spare", x.spare(-1), 0);
        due("meet, nothing owed", x.meet(0, 2), 0);
        due("what was counted does not come out so", x.sort(0), 0);
        due("wipe", x.wipe(1), 4);
    }

    private static void meetingsWithFault() {
        WordsLent x = Check.told("px;px", "101", "a01");
        due("said", x.at(0, 0, 3), 1);
        x.type(2, '2');
        due("meetings", x.count(2), 0);
        due("bytes", x.count(5), 4);
        due("meeting", x.meeting(0, 0), -1);
        due("said nothing", x.at(23, 0, 3), 0);
        due("open", x.stands(0, 0, 0), 0);
        due("undo", x.undo(2), 3);
        due("said again", x.at(0, 0, 3), 1);
    }

    /** "A text is empty: how many bytes it had." */
    private static void wipesOneAlone() {
        for (int text = 0; text < 3; text++) {
            WordsLent x = Check.full();
            due("wipe, full", x.wipe(text), ROOM[text]);
            for (int other = 0; other < 3; other++) {
                due("bytes", x.count(3 + other), other == text ? 0 : ROOM[other]);
                due("how many", x.count(other), other == text ? 0 : MOST[other]);
            }
            due("wipe, empty", x.wipe(text), 0);
            due("type, behind a wipe", x.type(text, SOUND[text].charAt(0)), 1);
            due("wipe, of one byte that is no whole thing", x.wipe(text), 1);
        }
    }

    /** "The last byte of a text is undone: how many are left. BAD; NOT: it is empty." */
    private static void undoesTheLast() {
        for (int text = 0; text < 3; text++) {
            WordsLent x = Check.full();
            for (int left = ROOM[text] - 1; left >= 0; left--) {
                due("undo", x.undo(text), left);
            }
            due("undo, empty", x.undo(text), -3);
            due("undo, empty still", x.undo(text), -3);
            due("bytes", x.count(3 + text), 0);
        }
        WordsLent x = Check.told("pa;ob", "", "");
        x.undo(0);
        x.type(0, 'c');
        due("the first one is left", x.person(0, 1), 0);
        due("the last one is another", x.person(1, 1), 2);
    }

    /** "ECHOES, 8 at most (0 on): on a DAY of a PERSON (0 to 7)", whoever is there. */
    private static void echoesOfAnyDayAndPerson() {
        for (int day = 0; day < 24; day++) {
            for (int person = 0; person < 8; person++) {
                due("echo", new WordsLent().echo(day, person), 1);
            }
        }
        WordsLent x = Check.told("px;px", "103;013", "a01");
        for (int person = 2; person < 8; person++) {
            due("echo of one who is not there", x.echo(0, person), person - 1);
        }
        due("pays", x.stands(0, 0, 1), 2);
        due("the seventh", x.echo(0, 1), 7);
        due("the eighth", x.echo(0, 0), 8);
        due("a ninth", x.echo(0, 0), -4);
        due("the eighth is an echo", x.stands(0, 0, 1), 3);
        due("the seventh, too", x.stands(0, 1, 1), 3);
        due("how many", x.count(6), 8);
    }

    /** "The last ECHO is undone: how many are left. NOT: there is none." */
    private static void backUndoesTheLast() {
        WordsLent x = Check.told("px;px", "103", "a01;b01");
        x.echo(0, 0);
        x.echo(1, 0);
        due("neither pays", x.stands(1, 0, 1), 3);
        due("back", x.back(), 1);
        due("the first is left", x.stands(0, 0, 1), 3);
        due("the last is undone", x.stands(1, 0, 1), 2);
        due("back", x.back(), 0);
        due("both pay", x.stands(1, 0, 1), 1);
        due("back, none", x.back(), -3);
        due("how many", x.count(6), 0);
    }

    private static WordsLent withItems(int form, int... items) {
        WordsLent x = new WordsLent();
        x.sheet(0, form, items.length);
        for (int i = 0; i < items.length; i++) {
            x.lay(0, form, i, items[i]);
        }
        return x;
    }

    /** "its items, two for each, as many as are whole" */
    private static void readWholePairs() {
        for (int items = 0; items <= 15; items++) {
            WordsLent x = withItems(0, new int[items]);
            due("read of " + items, x.read(0), items / 2);
            due("how many", x.count(6), items / 2);
            due("the sheet is left", x.lose(0), items);
        }
    }

    /** "as long as each may be" */
    private static void readAsLongAsEachMayBe() {
        due("the last day and person", withItems(0, 0, 0, 23, 7, 0, 7, 23, 0).read(0), 4);
        due("day 24", withItems(0, 0, 0, 24, 0, 0, 0).read(0), 1);
        due("day below 0", withItems(0, 0, 0, -1, 0, 0, 0).read(0), 1);
        due("person 8", withItems(0, 0, 0, 0, 8, 0, 0).read(0), 1);
        due("person below 0", withItems(0, 0, 0, 0, -1, 0, 0).read(0), 1);
        due("the first may not be", withItems(0, 24, 0, 0, 0).read(0), 0);
        WordsLent x = withItems(0, 0, 0, 24, 0, 0, 0);
        x.read(0);
        due("what came stays", x.count(6), 1);
        due("read makes no finding", x.count(8), 0);
    }

    /** "and there is room" */
    private static void readAsThereIsRoom() {
        for (int held = 0; held <= 8; held++) {
            WordsLent x = withItems(2, new int[60]);
            for (int i = 0; i < held; i++) {
                x.echo(23, 7);
            }
            due("read, behind " + held, x.read(0), 8 - held);
            due("how many", x.count(6), 8);
            due("read, full", x.read(0), 0);
            due("read, full and lost", x.read(1), -11);
            due("read, full and bad", x.read(4), -2);
        }
    }

    private static void readOfEachForm() {
        due("a short is no byte", withItems(1, 256, 0).read(0), 0);
        due("an int is no short", withItems(2, 65536, 0).read(0), 0);
        due("an int is no short", withItems(2, 0, 65536).read(0), 0);
        due("as a byte it is 0", withItems(0, 256, 256).read(0), 1);
        due("as a short it is 0", withItems(1, 65536, 65536).read(0), 1);
        WordsLent x = withItems(1, 5, 1, 2, 0);
        Check.put(x, 0, "px;px");
        Check.put(x, 1, "103;013");
        Check.put(x, 2, "c01;f01");
        due("read", x.read(0), 2);
        due("day 2 of 0", x.stands(2, 0, 1), 3);
        due("day 2 of 1", x.stands(2, 1, 1), 2);
        due("day 5 of 0", x.stands(5, 0, 1), 2);
        due("day 5 of 1", x.stands(5, 1, 1), 2);
        due("items are left", x.get(0, 1, 0), 5);
    }

    /** "An object is used for at most 512 calls": the last of them is as good as the first. */
    private static void fiveHundredAndTwelveCalls() {
        WordsLent x = new WordsLent();
        for (int i = 0; i < 254; i++) {
            due("type", x.type(1, '0'), 1);
            due("undo", x.undo(1), 0);
        }
        due("call 509", x.type(0, 'm'), 1);
        due("call 510", x.type(0, 'x'), 2);
        due("call 511", x.person(0, 0), 2);
        due("call 512", x.silent(), 1);
    }
}

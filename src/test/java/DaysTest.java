/** Promises 12 to 17: what becomes of the words, day by day; every number here was found by hand. */
final class DaysTest {
    private static final Check CHECK = new Check("DaysTest");

    public static void main(String[] args) {
        plainPeople();
        bothSpeak();
        leastWordFirst();
        preachers();
        orphans();
        misers();
        deaths();
        voidWords();
        wrongMeetings();
        clears();
        banks();
        rings();
        wrongNumbers();
        CHECK.end();
    }

    private static void due(String call, long got, long want) {
        CHECK.due(call, got, want);
    }

    /** What is left of a WORD behind the DAYS named. */
    private static void leftIs(WordsLent x, int word, int[] days, int[] lefts) {
        for (int i = 0; i < days.length; i++) {
            due("left of " + word + " behind " + days[i], x.stands(days[i], word, 1), lefts[i]);
        }
    }

    private static void plainPeople() {
        WordsLent x = Check.told("px;px", "013", "g01;c10;a01");
        leftIs(x, 0, new int[] {0, 1, 2, 5, 6, 12, 13, 19, 20, 22, 23}, new int[] {2, 2, 1, 1, 1, 1, 2, 2, 3, 3, 3});
        due("open", x.stands(22, 0, 0), 0);
        due("lost", x.stands(23, 0, 0), 3);
        due("owes", x.at(0, 1, 1), 2);
        due("owes nothing", x.at(0, 0, 1), 0);
        due("is owed", x.at(20, 0, 2), 3);
        due("is owed, lost", x.at(23, 0, 2), 0);
        due("owes, lost", x.at(23, 1, 1), 0);
        due("said", x.at(1, 1, 3), 1);
        due("said", x.at(6, 1, 3), 3);
        due("said", x.at(23, 1, 3), 3);
        due("said nothing", x.at(23, 0, 3), 0);
        due("silent", x.silent(), 1);
        WordsLent nine = Check.told("px;px", "019", "");
        leftIs(nine, 0, new int[] {0, 6, 13, 20}, new int[] {9, 9, 9, 9});
        WordsLent paid = Check.told("px;px", "011", "f01;g01");
        leftIs(paid, 0, new int[] {4, 5, 6, 13, 23}, new int[] {1, 0, 0, 0, 0});
        due("paid", paid.stands(5, 0, 0), 1);
        due("paid", paid.stands(23, 0, 0), 1);
        due("said once", paid.at(23, 1, 3), 1);
    }

    private static void bothSpeak() {
        WordsLent x = Check.told("px;px", "013;103", "d10");
        leftIs(x, 0, new int[] {2, 3}, new int[] {3, 2});
        leftIs(x, 1, new int[] {2, 3}, new int[] {3, 2});
        due("silent", x.silent(), 0);
        WordsLent twice = Check.told("px;px", "013", "a01;a10;a01;a10");
        leftIs(twice, 0, new int[] {0}, new int[] {0});
        due("said", twice.at(0, 1, 3), 3);
    }

    private static void leastWordFirst() {
        WordsLent x = Check.told("px;px", "101;102;011", "a01;b01;c01");
        leftIs(x, 0, new int[] {0, 1, 2}, new int[] {0, 0, 0});
        leftIs(x, 1, new int[] {0, 1, 2}, new int[] {2, 1, 0});
        leftIs(x, 2, new int[] {0, 1, 2}, new int[] {0, 0, 0});
    }

    private static void preachers() {
        WordsLent x = Check.told("bx;px", "014;105", "b01");
        leftIs(x, 0, new int[] {0, 1, 6, 13, 20, 23}, new int[] {4, 3, 5, 7, 9, 9});
        leftIs(x, 1, new int[] {0, 1, 6, 13, 20, 23}, new int[] {5, 3, 4, 5, 6, 6});
        WordsLent eight = Check.told("bx;px", "018", "");
        leftIs(eight, 0, new int[] {5, 6, 13}, new int[] {8, 9, 9});
        WordsLent odd = Check.told("bx;px", "103", "a01;b01;c01");
        leftIs(odd, 0, new int[] {0, 1, 2}, new int[] {1, 0, 0});
        due("paid", odd.stands(1, 0, 0), 1);
        due("said", odd.at(2, 0, 3), 2);
        WordsLent echoed = Check.told("bx;px", "103", "a01;b01;c01");
        echoed.echo(1, 0);
        leftIs(echoed, 0, new int[] {0, 1, 2}, new int[] {1, 1, 0});
        due("said", echoed.at(2, 0, 3), 3);
    }

    private static void orphans() {
        WordsLent x = Check.told("ox;px", "109", "a01;b01;c01;d01");
        leftIs(x, 0, new int[] {0, 1, 2, 3}, new int[] {9, 8, 8, 7});
        due("said", x.at(3, 0, 3), 2);
        WordsLent nothing = Check.told("ox;px;px", "109", "a01;b02;c01");
        leftIs(nothing, 0, new int[] {0, 1, 2}, new int[] {9, 9, 8});
        WordsLent two = Check.told("ox;px;px", "109;209", "a01;b02;c01;d01");
        leftIs(two, 0, new int[] {0, 1, 2, 3}, new int[] {9, 9, 9, 8});
        leftIs(two, 1, new int[] {0, 1, 2, 3}, new int[] {9, 8, 8, 8});
        WordsLent echoed = Check.told("ox;px", "109", "a01;b01;c01;d01");
        echoed.echo(1, 0);
        leftIs(echoed, 0, new int[] {0, 1, 2, 3}, new int[] {9, 9, 9, 8});
        due("said", echoed.at(3, 0, 3), 2);
        WordsLent bothOrphans = Check.told("ox;ox", "109;019", "a01;a01;a10");
        leftIs(bothOrphans, 0, new int[] {0}, new int[] {8});
        leftIs(bothOrphans, 1, new int[] {0}, new int[] {8});
    }

    private static void misers() {
        WordsLent x = Check.told("mx;px", "102;012", "a01;b10");
        leftIs(x, 0, new int[] {0, 1}, new int[] {2, 2});
        leftIs(x, 1, new int[] {0, 1}, new int[] {1, 0});
        due("silent", x.silent(), 1);
        due("said", x.at(23, 0, 3), 0);
    }

    private static void deaths() {
        WordsLent x = Check.told("pc;pf", "014;103", "c01;d01");
        due("alive", x.at(1, 0, 0), 0);
        due("dead", x.at(2, 0, 0), 1);
        due("dead", x.at(23, 0, 0), 1);
        due("alive", x.at(4, 1, 0), 0);
        due("open", x.stands(1, 0, 0), 0);
        due("a prayer", x.stands(2, 0, 0), 2);
        due("a prayer still", x.stands(23, 0, 0), 2);
        due("lost", x.stands(2, 1, 0), 3);
        leftIs(x, 0, new int[] {1, 2, 3, 6, 23}, new int[] {4, 3, 3, 3, 3});
        leftIs(x, 1, new int[] {1, 2, 3, 6, 23}, new int[] {3, 2, 2, 2, 2});
        due("owes no prayer", x.at(2, 1, 1), 0);
        due("said", x.at(23, 0, 3), 1);
        WordsLent same = Check.told("pc;pc", "014;103", "");
        due("lost on one day", same.stands(2, 0, 0), 3);
        due("lost on one day", same.stands(2, 1, 0), 3);
        WordsLent first = Check.told("pa;px", "101", "a01");
        due("paid on the day one dies", first.stands(0, 0, 0), 1);
        WordsLent grown = Check.told("pg;px", "108", "");
        leftIs(grown, 0, new int[] {5, 6, 13}, new int[] {8, 9, 9});
        due("lost on day 6", grown.stands(6, 0, 0), 3);
    }

    private static void voidWords() {
        WordsLent x = Check.told("px;px", "005;025;207;116", "a00;b02;c01;d11");
        for (int word = 0; word < 4; word++) {
            due("void", x.stands(0, word, 0), 4);
            due("void", x.stands(23, word, 0), 4);
        }
        leftIs(x, 0, new int[] {0, 6, 23}, new int[] {5, 5, 5});
        leftIs(x, 1, new int[] {0, 6, 23}, new int[] {5, 5, 5});
        leftIs(x, 2, new int[] {0, 6, 23}, new int[] {7, 7, 7});
        due("owes", x.at(0, 0, 1), 0);
        due("is owed", x.at(0, 0, 2), 0);
        due("bank", x.bank(0), -1);
        due("ring", x.ring(0, 0), -1);
        due("clear", x.clear(0), 0);
        due("silent", x.silent(), 3);
    }

    private static void wrongMeetings() {
        WordsLent x = Check.told("pa;px;px", "129;019", "b10;a33;a77;a22;c21");
        leftIs(x, 0, new int[] {0, 1, 2}, new int[] {9, 9, 8});
        leftIs(x, 1, new int[] {0, 1, 2}, new int[] {9, 9, 9});
        due("a prayer", x.stands(0, 1, 0), 2);
    }

    private static void clears() {
        WordsLent x = Check.told("px;px;pc;px", "101;211;301;021", "c01;d03;e01");
        due("clear, two paid", x.clear(0), 3);
        due("clear, by a prayer", x.clear(1), 2);
        due("clear, lost", x.clear(2), -1);
        due("clear, owes nothing", x.clear(3), 0);
        due("clear, none", x.clear(4), -2);
        due("clear, below", x.clear(-1), -2);
    }

    private static void banks() {
        WordsLent x = Check.told("pb;px;px", "022;101;201;121", "c12;c12;d12");
        due("bank, the least", x.bank(0), 0);
        due("bank, behind a death", x.bank(1), 1);
        due("bank, of the dead", x.bank(23), -1);
        WordsLent sum = Check.told("px;px;px", "013;102;202;122", "");
        due("bank, by the sum", sum.bank(0), 1);
        due("bank, no day", sum.bank(24), -2);
        due("bank, no day", sum.bank(-1), -2);
        WordsLent cap = Check.told("px;bx", "019;108", "");
        due("bank, before day 6", cap.bank(5), 0);
        due("bank, like ones", cap.bank(6), 0);
    }

    private static void rings() {
        WordsLent three = Check.told("px;px;px;px", "101;211;021", "");
        due("ring of three", three.ring(0, 0), 3);
        due("its least", three.ring(0, 1), 0);
        WordsLent two = Check.told("px;px;px;px", "101;211;021;231;321", "k23");
        due("ring of two", two.ring(0, 0), 2);
        due("its least", two.ring(0, 1), 2);
        due("ring, behind day 9", two.ring(9, 0), 2);
        due("ring of two is not paid", two.ring(10, 0), 2);
        due("ring, all dead", two.ring(23, 0), -1);
        due("ring, all dead", two.ring(23, 1), -1);
        WordsLent broken = Check.told("px;px;px;px", "101;211;021;231;321", "c23");
        due("ring of two", broken.ring(1, 0), 2);
        due("ring of three is left", broken.ring(2, 0), 3);
        due("its least", broken.ring(2, 1), 0);
        WordsLent none = Check.told("px;px;px", "101;211;201", "");
        due("no ring", none.ring(0, 0), -1);
        due("no ring", none.ring(0, 1), -1);
        WordsLent alike = Check.told("px;px;px;px;px", "341;431;121;211", "");
        due("two rings of two", alike.ring(5, 0), 2);
        due("the least in any", alike.ring(5, 1), 1);
    }

    private static void wrongNumbers() {
        WordsLent x = Check.told("px;px", "011", "a01");
        due("stands, day", x.stands(24, 0, 0), -2);
        due("stands, day", x.stands(-1, 0, 0), -2);
        due("stands, word", x.stands(0, 1, 0), -2);
        due("stands, word", x.stands(0, -1, 0), -2);
        due("stands, what", x.stands(0, 0, 2), -2);
        due("stands, what", x.stands(0, 0, -1), -2);
        due("at, day", x.at(24, 0, 0), -2);
        due("at, day", x.at(-1, 0, 0), -2);
        due("at, person", x.at(0, 2, 0), -2);
        due("at, person", x.at(0, -1, 0), -2);
        due("at, what", x.at(0, 0, 4), -2);
        due("at, what", x.at(0, 0, -1), -2);
        due("ring, day", x.ring(24, 0), -2);
        due("ring, day", x.ring(-1, 0), -2);
        due("ring, what", x.ring(0, 2), -2);
        due("ring, what", x.ring(0, -1), -2);
        due("silent, nobody", new WordsLent().silent(), 0);
        due("bank, nobody", new WordsLent().bank(0), -1);
    }
}

/** Promises 18 to 21: each sentence of the document that names an edge of MEET, LIVE, VOICE and SPARE. */
final class PlanEdgesTest {
    private static final Check CHECK = new Check("PlanEdgesTest");

    public static void main(String[] args) {
        meetOfLessThanTwo();
        meetOnEachDay();
        meetOfLikeOnes();
        meetWhateverRoom();
        meetByOpenAndLost();
        meetTheDead();
        liveOnEachDay();
        liveByPrayer();
        liveInPlaceOfItsOwn();
        liveByWhatOneOwes();
        voiceOfNobody();
        voiceOfAll();
        voiceNoBetter();
        spareNothing();
        spareOne();
        spareTwo();
        spareNoMore();
        CHECK.end();
    }

    private static void due(String call, long got, long want) {
        CHECK.due(call, got, want);
    }

    private static String many(String thing, int n) {
        return Check.many(thing, n);
    }

    private static void meetIs(WordsLent x, int day, int first, int other, int owed) {
        due("meet(" + day + ", 0)", x.meet(day, 0), first);
        due("meet(" + day + ", 1)", x.meet(day, 1), other);
        due("meet(" + day + ", 2)", x.meet(day, 2), owed);
    }

    /** "NONE: there are less than two" */
    private static void meetOfLessThanTwo() {
        meetIs(Check.told("", "011", "a01"), 0, -1, -1, -1);
        meetIs(Check.told("px", "011", "a01"), 0, -1, -1, -1);
        meetIs(Check.told("px", "011", "a01"), 23, -1, -1, -1);
        meetIs(Check.told("px;px", "", ""), 0, 0, 1, 0);
        due("a wrong day, of nobody", new WordsLent().meet(24, 0), -2);
        due("a wrong what, of nobody", new WordsLent().meet(0, 3), -2);
    }

    private static void meetOnEachDay() {
        WordsLent x = Check.told("px;px", "101", "");
        for (int day = 0; day < 24; day++) {
            meetIs(x, day, 0, 1, day < 6 ? 0 : 3);
        }
        due("the day before the first", x.meet(-1, 2), -2);
        due("the day behind the last", x.meet(24, 2), -2);
    }

    /** "of two PEOPLE (the first less ..) .. of like ones the least row" */
    private static void meetOfLikeOnes() {
        meetIs(Check.told(many("px", 8), "", ""), 5, 0, 1, 0);
        meetIs(Check.told(many("px", 8), "671", ""), 0, 6, 7, 0);
        meetIs(Check.told(many("px", 8), "761", ""), 0, 6, 7, 0);
        meetIs(Check.told(many("px", 8), "701", ""), 0, 0, 7, 0);
        meetIs(Check.told("px;px;px", "121;021", ""), 0, 0, 2, 4);
        meetIs(Check.told("px;px;px;px", "211;301", ""), 0, 0, 3, 4);
        meetIs(Check.told("px;px;px;px", "212;301", ""), 0, 0, 3, 5);
        meetIs(Check.told("px;px;px;px", "211;302", ""), 0, 1, 2, 5);
    }

    /** "the MEETING more of it, behind all others (whatever room)" */
    private static void meetWhateverRoom() {
        WordsLent x = Check.told("ox;px;px", "109;201", "c01;" + many("c11", 11));
        due("all room is taken", x.count(5), 47);
        // By c01 the orphan's first is gone, and it says its WORD to 2; ahead of c01 it would not.
        meetIs(x, 2, 0, 2, 9);
        // On the DAY before the orphan's first is the new one itself, and c01 is the second.
        meetIs(x, 1, 0, 1, 13);
        due("it does not stay", x.count(2), 12);
        due("it does not stay", x.at(23, 0, 3), 0);
        due("the last one told is left", x.meeting(11, 1), 1);
    }

    /** "by which fewest USES are OWED, by OPEN and LOST ones, behind DAY 23" */
    private static void meetByOpenAndLost() {
        WordsLent x = Check.told("px;pk", "103;013", "");
        // What 1 lent is a PRAYER behind DAY 10, what it owes is LOST: 4.
        meetIs(x, 0, 0, 1, 3);
        meetIs(x, 10, 0, 1, 3);
        meetIs(x, 11, 0, 1, 4);
        meetIs(Check.told("px;px", "009;119;029;209;779", ""), 0, 0, 1, 0);
        meetIs(Check.told("px;px", many("109", 12), ""), 22, 0, 1, 107);
        meetIs(Check.told("px;px", "101", "a01"), 5, 0, 1, 0);
    }

    private static void meetTheDead() {
        WordsLent x = Check.told("pa;pa;px", "011;101;021", "");
        meetIs(x, 0, 0, 1, 0);
        meetIs(x, 1, 0, 1, 2);
        // 2 owes to 0 alone: a PRAYER behind DAY 0, whoever meets.
        meetIs(Check.told("pa;px;px", "021;121", ""), 0, 1, 2, 0);
        meetIs(Check.told("pa;px", "019", ""), 0, 0, 1, 0);
    }

    /** "the least DAY (0 to 23) to DIE behind .. by which nothing that one OWES becomes LOST" */
    private static void liveOnEachDay() {
        for (int day = 0; day < 24; day++) {
            // For so many USES it is, on that DAY, that one must say it so often.
            int uses = day < 6 ? 1 : day < 13 ? 2 : day < 20 ? 3 : 4;
            String meeting = (char) ('a' + day) + "01";
            due("paid on " + day, Check.told("px;px", "101", many(meeting, uses)).live(0), day);
            due("not all on " + day, Check.told("px;px", "101", many(meeting, uses - 1)).live(0), -1);
        }
    }

    /** Who lent it dies ahead of one: then it is a PRAYER; on one DAY it is LOST. */
    private static void liveByPrayer() {
        for (int day = 0; day < 24; day++) {
            WordsLent x = Check.told("pa;p" + (char) ('a' + day), "109", "");
            due("outlive who dies on " + day, x.live(0), day == 23 ? -1 : day + 1);
        }
        due("the later one of two", Check.told("pa;pc;pf", "109;209", "").live(0), 6);
        due("paid to one, outlive the other", Check.told("pa;px;pd", "101;209", "f01").live(0), 5);
        due("paid first", Check.told("pa;pk", "101", "d01").live(0), 3);
    }

    /** "in place of its own": one's own DAY is nothing to it. */
    private static void liveInPlaceOfItsOwn() {
        for (int day = 0; day < 24; day++) {
            WordsLent x = Check.told("p" + (char) ('a' + day) + ";px", "101", "e01");
            due("live, who dies on " + day, x.live(0), 4);
            due("its own day is left", x.person(0, 1), day);
            due("what it is is left", x.at(day, 0, 0), 1);
        }
    }

    private static void liveByWhatOneOwes() {
        due("owes nothing", Check.told("px", "", "").live(0), 0);
        due("owes nothing but void ones", Check.told("px;px", "009;209;119", "").live(0), 0);
        due("is owed", Check.told("px;px", "019", "").live(0), 0);
        due("another one's is lost", Check.told("px;pa;px", "219;011;201", "b02").live(0), 1);
        due("a miser", Check.told("mx;pw", "101", many("a01", 12)).live(0), 23);
        due("an orphan, by its second", Check.told("ox;px", "101", "a01;c01").live(0), 2);
        WordsLent eight = Check.told(many("pa", 7) + ";px", "671", "");
        due("the last one", eight.live(7), 1);
        due("no ninth one", eight.live(8), -2);
        due("nobody", new WordsLent().live(0), -2);
    }

    private static void voiceIs(WordsLent x, int who, int paid) {
        due("voice(0)", x.voice(0), who);
        due("voice(1)", x.voice(1), paid);
    }

    /** "NONE: there are none" */
    private static void voiceOfNobody() {
        voiceIs(Check.told("", "011", "a01"), -1, -1);
        due("a wrong what, of nobody", new WordsLent().voice(2), -2);
        due("a wrong what, of nobody", new WordsLent().voice(-1), -2);
        voiceIs(Check.told("mx", "", ""), 0, 0);
    }

    /** "the PERSON who had better be a preacher, so that most WORDS are PAID, of like ones the least" */
    private static void voiceOfAll() {
        voiceIs(Check.told("px;px", many("102", 12), many("a01", 12)), 0, 12);
        voiceIs(Check.told(many("px", 8), "672", "a67"), 7, 1);
        voiceIs(Check.told(many("px", 8), "672;762", "a67"), 6, 1);
        voiceIs(Check.told(many("px", 8), "", ""), 0, 0);
        voiceIs(Check.told("px;px;px", "012;122;102;122", "a12;b12"), 2, 2);
        voiceIs(Check.told("px;px;px", "012;122;102;122", "a12;b12;c01"), 0, 2);
        voiceIs(Check.told("px;ox", "012", "a01"), 1, 1);
        voiceIs(Check.told("px;mx", "012", "a01"), 1, 1);
    }

    /** "(Also if it is no better than as it is.)" */
    private static void voiceNoBetter() {
        voiceIs(Check.told("bx;bx", "102", "a01"), 0, 1);
        WordsLent x = Check.told("px;px", "011;101", "g01;g01");
        due("as it is the first is paid", x.stands(23, 0, 0), 1);
        due("as it is the second is paid, too", x.stands(23, 1, 0), 1);
        // What a preacher lent is for 3 USES on DAY 6, and 2 are said.
        voiceIs(x, 0, 1);
        due("its own sort is left", x.person(0, 0), 0);
    }

    private static void spareIs(WordsLent x, int many, int first, int second) {
        due("spare(NONE)", x.spare(-1), many);
        due("spare(0)", x.spare(0), first);
        due("spare(1)", x.spare(1), second);
        due("spare(2)", x.spare(2), -2);
        due("spare(-2)", x.spare(-2), -2);
    }

    /** ECHOES by their DAYS, each of PERSON 0; where the DAY is -1, one that is nothing to anybody. */
    private static WordsLent echoed(String words, String meetings, int... days) {
        WordsLent x = Check.told("px;px", words, meetings);
        for (int day : days) {
            x.echo(Math.max(0, day), day < 0 ? 7 : 0);
        }
        return x;
    }

    /** "the fewest ECHOES (0 to 2)": 0. */
    private static void spareNothing() {
        spareIs(new WordsLent(), 0, -1, -1);
        spareIs(echoed("101", "a01"), 0, -1, -1);
        spareIs(echoed("101", "a01", 1, 2, 3, 4, 5, 6, 7, 8), 0, -1, -1);
        WordsLent prayer = Check.told("px;pa", "101", "a01");
        prayer.echo(0, 0);
        spareIs(prayer, 0, -1, -1);
    }

    /** "the i-th (0, 1; NONE)": of one the first alone. */
    private static void spareOne() {
        spareIs(echoed("101", "a01", 0), 1, 0, -1);
        spareIs(echoed("101", "a01", -1, -1, -1, -1, -1, -1, -1, 0), 1, 7, -1);
        spareIs(echoed("101", "a01;b01;c01", -1, 2, 1, 0), 1, 1, -1);
        // One is fewer than two, though the two stand ahead of it.
        spareIs(echoed("101", "a01;b01", 0, 0, 1), 1, 2, -1);
    }

    /** "of like ones the least row (each more than the one ahead)" */
    private static void spareTwo() {
        spareIs(echoed("102", "a01;b01", 0, 1), 2, 0, 1);
        spareIs(echoed("102", "a01;b01", -1, -1, -1, -1, -1, -1, 0, 1), 2, 6, 7);
        spareIs(echoed("101", "a01;b01", 0, 1, 1, -1, -1, -1, -1, 0), 2, 0, 7);
        spareIs(echoed("102", "a01;b01;c01", -1, 2, 1, 0), 2, 1, 2);
    }

    /** "NONE": three would be too many, or none would do. */
    private static void spareNoMore() {
        spareIs(echoed("103", "a01;b01;c01", 0, 1, 2), -1, -1, -1);
        spareIs(echoed("101", "a01", 0, 0, 0), -1, -1, -1);
        spareIs(echoed("101", ""), -1, -1, -1);
        spareIs(echoed("102", "a01", 0), -1, -1, -1);
    }
}

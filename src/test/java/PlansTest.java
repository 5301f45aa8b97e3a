/** Promises 18 to 21: meet, live, voice, spare. */
final class PlansTest {
    private static final Check CHECK = new Check("PlansTest");

    public static void main(String[] args) {
        meetings();
        meetingsFull();
        lives();
        voices();
        spares();
        CHECK.end();
    }

    private static void due(String call, long got, long want) {
        CHECK.due(call, got, want);
    }

    private static void meetIs(WordsLent x, int day, int first, int other, int owed) {
        due("meet(" + day + ", 0)", x.meet(day, 0), first);
        due("meet(" + day + ", 1)", x.meet(day, 1), other);
        due("meet(" + day + ", 2)", x.meet(day, 2), owed);
    }

    private static void meetings() {
        // Without a MEETING 5 and 4 are LOST behind DAY 23.
        WordsLent x = Check.told("px;px;px", "012;201", "");
        meetIs(x, 0, 0, 2, 5);
        meetIs(x, 6, 0, 1, 8);
        meetIs(x, 23, 0, 1, 8);
        due("nothing is changed", x.count(2), 0);
        due("nothing is changed", x.stands(0, 1, 0), 0);
        x.echo(0, 0);
        meetIs(x, 0, 0, 1, 8);
        // A PRAYER is not OWED any more.
        meetIs(Check.told("px;pb", "014;104", ""), 2, 0, 1, 4);
        meetIs(Check.told("px;pb", "014;104", ""), 1, 0, 1, 3);
        meetIs(Check.told("px", "", ""), 0, -1, -1, -1);
        meetIs(Check.told("", "", ""), 0, -1, -1, -1);
        due("meet, day", x.meet(24, 0), -2);
        due("meet, day", x.meet(-1, 0), -2);
        due("meet, what", x.meet(0, 3), -2);
        due("meet, what", x.meet(0, -1), -2);
    }

    private static void meetingsFull() {
        WordsLent x = Check.told("px;px;px", "021;202;211", "a12;a11;a11;a11;a11;a11;a11;a11;a11;a11;a11;a11");
        due("count(2)", x.count(2), 12);
        // 0 and 2: both pay (0 + 4); the 13th is behind all others, whatever room.
        meetIs(x, 0, 0, 2, 4);
        due("count(2)", x.count(2), 12);
        // Behind the others of its DAY: the orphan says at the second one.
        WordsLent y = Check.told("ox;px;px", "101;201", "c01");
        meetIs(y, 2, 0, 1, 4);
        meetIs(y, 1, 0, 1, 4);
        WordsLent z = Check.told("ox;px;px", "103;201", "c01");
        meetIs(z, 2, 0, 2, 6);
    }

    private static void lives() {
        due("live, to pay", Check.told("pa;px", "101", "c01").live(0), 2);
        due("live, to pay twice", Check.told("pa;px", "102", "c01;f10").live(0), 5);
        due("live, too late", Check.told("pa;px", "102", "c01").live(0), -1);
        due("live, longer than who lent", Check.told("pa;pc", "109", "").live(0), 3);
        due("live, owes nothing", Check.told("px;px", "011", "").live(0), 0);
        due("live, a miser", Check.told("ma;px", "101", "c01").live(0), -1);
        due("live, void", Check.told("px;px", "009;209", "").live(0), 0);
        WordsLent x = Check.told("px;px", "101", "c01");
        due("live, as it is", x.live(0), 2);
        due("its own day is left", x.person(0, 1), 23);
        x.echo(2, 0);
        due("live, echoed", x.live(0), -1);
        due("live, none", x.live(2), -2);
        due("live, below", x.live(-1), -2);
    }

    private static void voiceIs(WordsLent x, int who, int paid) {
        due("voice(0)", x.voice(0), who);
        due("voice(1)", x.voice(1), paid);
    }

    private static void voices() {
        voiceIs(Check.told("px;px;px", "022", "a02"), 2, 1);
        voiceIs(Check.told("px;px;px", "022;202", "a02"), 0, 1);
        voiceIs(Check.told("px;px;px", "022", ""), 0, 0);
        voiceIs(Check.told("px;px;px", "021", "a02"), 0, 1);
        voiceIs(Check.told("mx;px", "102", "a01"), 0, 1);
        // What 0 lent grows by 2 if it is a preacher.
        voiceIs(Check.told("px;px", "011", "g01;h01"), 1, 1);
        voiceIs(Check.told("px;bx;px", "012;104", "a01"), 0, 1);
        voiceIs(Check.told("", "", ""), -1, -1);
        WordsLent x = Check.told("px;px", "102", "a01");
        voiceIs(x, 0, 1);
        due("its own sort is left", x.person(0, 0), 0);
        due("voice, what", x.voice(2), -2);
        due("voice, what", x.voice(-1), -2);
    }

    private static void spareIs(WordsLent x, int many, int first, int second) {
        due("spare(NONE)", x.spare(-1), many);
        due("spare(0)", x.spare(0), first);
        due("spare(1)", x.spare(1), second);
    }

    private static void spares() {
        WordsLent x = Check.told("px;px", "101", "a01");
        spareIs(x, 0, -1, -1);
        x.echo(5, 5);
        spareIs(x, 0, -1, -1);
        x.echo(0, 0);
        spareIs(x, 1, 1, -1);
        x.echo(0, 0);
        spareIs(x, 2, 1, 2);
        x.echo(0, 0);
        spareIs(x, -1, -1, -1);
        due("echoes are left", x.count(6), 4);
        WordsLent either = Check.told("px;px", "102", "a01;b01;c01");
        either.echo(1, 0);
        either.echo(0, 0);
        spareIs(either, 1, 0, -1);
        WordsLent pair = Check.told("px;px", "102", "a01;b01;c01");
        pair.echo(0, 1);
        pair.echo(0, 0);
        pair.echo(1, 0);
        pair.echo(2, 0);
        spareIs(pair, 2, 1, 2);
        spareIs(new WordsLent(), 0, -1, -1);
        due("spare, bad", x.spare(2), -2);
        due("spare, bad", x.spare(-2), -2);
    }
}

/** Promises 12 to 17: each sentence of the document that names an edge of what becomes of the words. */
final class DayEdgesTest {
    private static final Check CHECK = new Check("DayEdgesTest");
    private static final int OPEN = 0, PAID = 1, PRAYER = 2, LOST = 3, VOID = 4;

    public static void main(String[] args) {
        bothAreThere();
        voidStaysVoid();
        moreUsesOnThreeDays();
        moreUsesOfOpenOnesAlone();
        moreUsesBeforeMeetings();
        meetingsOfEachDayAsTold();
        meetingsOfSuchAsAreThere();
        meetingsOfTheLiving();
        leastOpenWord();
        nothingToSay();
        lessUses();
        orphansStammer();
        orphansHaveAWord();
        misersNod();
        echoesPayNothing();
        echoesOfEachSort();
        deathsOnEachDay();
        prayersAndLostOnesStay();
        dyingOnOneDay();
        owesAndIsOwed();
        saysUpToTwelve();
        clearEdges();
        bankEdges();
        ringEdges();
        ringsEnd();
        silentEdges();
        CHECK.end();
    }

    private static void due(String call, long got, long want) {
        CHECK.due(call, got, want);
    }

    private static void wordIs(WordsLent x, int day, int word, int what, int left) {
        due("what " + word + " is behind " + day, x.stands(day, word, 0), what);
        due("what is left of " + word + " behind " + day, x.stands(day, word, 1), left);
    }

    private static String many(String thing, int n) {
        return Check.many(thing, n);
    }

    /** "OPEN at first, if both that it is between are there, and not one and the same; else it is VOID" */
    private static void bothAreThere() {
        for (int people = 0; people <= 8; people++) {
            String all = many("px", people);
            for (int pair = 0; pair < 64; pair++) {
                int lender = pair / 8;
                int debtor = pair % 8;
                boolean open = lender < people && debtor < people && lender != debtor;
                WordsLent x = Check.told(all, "" + lender + debtor + 5, "");
                wordIs(x, 0, 0, open ? OPEN : VOID, 5);
            }
        }
    }

    /** "a VOID one: as told", on every DAY, whoever meets or dies. */
    private static void voidStaysVoid() {
        WordsLent x = Check.told("bf;px", "009;111;021;201;129;219", "a00;a11;b01;b02;c21;g01");
        int[] told = {9, 1, 1, 1, 9, 9};
        for (int day = 0; day < 24; day++) {
            for (int word = 0; word < 6; word++) {
                wordIs(x, day, word, VOID, told[word]);
            }
            for (int person = 0; person < 2; person++) {
                due("owes", x.at(day, person, 1), 0);
                due("is owed", x.at(day, person, 2), 0);
                due("said", x.at(day, person, 3), 0);
            }
        }
    }

    /** "of DAYS 6, 13 and 20, each WORD that is OPEN is for 1 USE more, 9 at most, .. a preacher lent, for 2" */
    private static void moreUsesOnThreeDays() {
        for (int sort = 0; sort < 4; sort++) {
            for (int uses = 1; uses <= 9; uses++) {
                WordsLent x = Check.told("pomb".charAt(sort) + "x;bx", "01" + uses, "");
                int left = uses;
                for (int day = 0; day < 23; day++) {
                    if (day == 6 || day == 13 || day == 20) {
                        left = Math.min(9, left + (sort == 3 ? 2 : 1));
                    }
                    wordIs(x, day, 0, OPEN, left);
                }
                wordIs(x, 23, 0, LOST, left);
            }
        }
    }

    private static void moreUsesOfOpenOnesAlone() {
        WordsLent x = Check.told("px;pf;px", "013;201;103", "a02");
        wordIs(x, 5, 0, LOST, 3);
        wordIs(x, 6, 0, LOST, 3);
        wordIs(x, 20, 0, LOST, 3);
        wordIs(x, 5, 1, PAID, 0);
        wordIs(x, 6, 1, PAID, 0);
        wordIs(x, 20, 1, PAID, 0);
        wordIs(x, 5, 2, PRAYER, 3);
        wordIs(x, 6, 2, PRAYER, 3);
        wordIs(x, 20, 2, PRAYER, 3);
        // Behind the same DAY, too: it is for more first, and then who owes it dies.
        wordIs(Check.told("px;pg", "013", ""), 6, 0, LOST, 4);
        wordIs(Check.told("pg;px", "013", ""), 6, 0, PRAYER, 4);
    }

    /** "On a DAY first .. Then come its MEETINGS" */
    private static void moreUsesBeforeMeetings() {
        wordIs(Check.told("px;px", "019", "g01"), 6, 0, OPEN, 8);
        wordIs(Check.told("px;px", "011", "g01"), 6, 0, OPEN, 1);
        wordIs(Check.told("px;px", "011", "f01"), 6, 0, PAID, 0);
        wordIs(Check.told("px;px", "011", "g01;g01"), 6, 0, PAID, 0);
        wordIs(Check.told("bx;px", "011", "n01;n01"), 13, 0, OPEN, 3);
        wordIs(Check.told("px;bx", "018", "u01"), 20, 0, OPEN, 7);
    }

    /** "its MEETINGS, as told": the DAYS in their order, the MEETINGS of one in theirs. */
    private static void meetingsOfEachDayAsTold() {
        WordsLent later = Check.told("px;px", "012", "x01;c01;a01");
        wordIs(later, 0, 0, OPEN, 1);
        wordIs(later, 1, 0, OPEN, 1);
        wordIs(later, 2, 0, PAID, 0);
        WordsLent one = Check.told("ox;px;px", "103;203", "d01;d02");
        wordIs(one, 3, 0, OPEN, 3);
        wordIs(one, 3, 1, OPEN, 2);
        WordsLent turned = Check.told("ox;px;px", "103;203", "d02;d01");
        wordIs(turned, 3, 0, OPEN, 2);
        wordIs(turned, 3, 1, OPEN, 3);
        WordsLent twelve = Check.told("px;px", "019;103", many("a01", 12));
        wordIs(twelve, 0, 0, PAID, 0);
        wordIs(twelve, 0, 1, PAID, 0);
        WordsLent last = Check.told("px;px", "014", many("x10", 4));
        wordIs(last, 22, 0, OPEN, 7);
        wordIs(last, 23, 0, LOST, 3);
    }

    /** "of such as are there, not one and the same" */
    private static void meetingsOfSuchAsAreThere() {
        WordsLent x = Check.told("px;px", "019;109", "a00;a11;a02;a20;a12;a21;a77;a22");
        wordIs(x, 0, 0, OPEN, 9);
        wordIs(x, 0, 1, OPEN, 9);
        due("nobody said a word", x.silent(), 3);
        WordsLent eight = Check.told(many("px", 8), "679;769", "a67;b76");
        wordIs(eight, 1, 0, OPEN, 7);
        wordIs(eight, 1, 1, OPEN, 7);
    }

    /** "and not DEAD": on one's DAY one meets, behind it not. */
    private static void meetingsOfTheLiving() {
        for (int day = 0; day < 23; day++) {
            char dies = (char) ('a' + day);
            String meetings = dies + "01;" + (char) (dies + 1) + "01";
            WordsLent who = Check.told("px;p" + dies, "019;109", meetings);
            due("who dies says it once", who.at(23, 1, 3), 1);
            due("who lives says it once", who.at(23, 0, 3), 1);
            due("dead", who.at(day, 1, 0), 1);
            due("the other one lives", who.at(day, 0, 0), 0);
            WordsLent to = Check.told("p" + dies + ";px", "019;109", meetings);
            due("to who dies it is said once", to.at(23, 1, 3), 1);
            due("who dies says it once", to.at(23, 0, 3), 1);
        }
        due("on the last day", Check.told("px;px", "011", "x01").at(23, 1, 3), 1);
        due("on the first day", Check.told("pa;pa", "011", "a01").stands(0, 0, 0), PAID);
    }

    /** "the least that is OPEN and that the other one lent to who SAYS it" */
    private static void leastOpenWord() {
        WordsLent x = Check.told("px;px;px", "211;121;011;101;102;103", "a01;b01;c01");
        for (int day = 0; day < 3; day++) {
            wordIs(x, day, 0, OPEN, 1);
            wordIs(x, day, 1, OPEN, 1);
            wordIs(x, day, 2, PAID, 0);
            wordIs(x, day, 3, PAID, 0);
            wordIs(x, day, 4, day < 2 ? OPEN : PAID, 2 - day);
            wordIs(x, day, 5, OPEN, 3);
        }
        WordsLent twelve = Check.told("px;px", many("101", 12), many("a01", 11));
        for (int word = 0; word < 11; word++) {
            wordIs(twelve, 0, word, PAID, 0);
        }
        wordIs(twelve, 0, 11, OPEN, 1);
    }

    /** "(nothing, if there is none)" */
    private static void nothingToSay() {
        WordsLent x = Check.told("px;px;px", "102;022", "a12;a12;b01;b01;b01");
        due("who owes to another one", x.at(0, 2, 3), 0);
        due("who owes nothing", x.at(23, 1, 3), 0);
        due("who has paid", x.at(23, 0, 3), 2);
        due("silent", x.silent(), 6);
    }

    /** "for 1 USE less, of a preacher that SAYS it for 2 (0 at least) .. At 0 it is PAID" */
    private static void lessUses() {
        for (int uses = 1; uses <= 9; uses++) {
            WordsLent plain = Check.told("px;bx", "10" + uses, "b01");
            wordIs(plain, 0, 0, OPEN, uses);
            wordIs(plain, 1, 0, uses == 1 ? PAID : OPEN, uses - 1);
            WordsLent preacher = Check.told("bx;px", "10" + uses, "b10");
            wordIs(preacher, 0, 0, OPEN, uses);
            wordIs(preacher, 1, 0, uses <= 2 ? PAID : OPEN, Math.max(0, uses - 2));
            due("said once", preacher.at(1, 0, 3), 1);
        }
    }

    /** "an orphan SAYS at each second of those MEETINGS alone .. (the second, the fourth ..)" */
    private static void orphansStammer() {
        for (int meetings = 1; meetings <= 12; meetings++) {
            WordsLent oneDay = Check.told("ox;px", "109", many("a01", meetings));
            wordIs(oneDay, 0, 0, OPEN, 9 - meetings / 2);
            due("said", oneDay.at(0, 0, 3), meetings / 2);
            due("silent", oneDay.silent(), meetings == 1 ? 3 : 2);
        }
    }

    /** ".. in which there is a WORD to be said": others are not counted, and all partners are. */
    private static void orphansHaveAWord() {
        WordsLent none = Check.told("ox;px;px", "109;027", "a02;b01;c02;d01;e02");
        wordIs(none, 1, 0, OPEN, 9);
        wordIs(none, 3, 0, OPEN, 8);
        WordsLent both = Check.told("ox;px;px", "109;209", "a01;b02;c02;d01");
        wordIs(both, 3, 0, OPEN, 8);
        wordIs(both, 3, 1, OPEN, 8);
        // Who has paid all has no WORD to say: then, of a new one's, the first is none again.
        WordsLent paid = Check.told("ox;px;px", "101;209", "a01;b01;c01;d02;e02");
        wordIs(paid, 1, 0, PAID, 0);
        wordIs(paid, 3, 1, OPEN, 9);
        wordIs(paid, 4, 1, OPEN, 8);
        WordsLent dead = Check.told("ox;pa;px", "109;209", "b01;c02;d02");
        wordIs(dead, 2, 1, OPEN, 9);
        wordIs(dead, 3, 1, OPEN, 8);
    }

    /** "a miser never" */
    private static void misersNod() {
        WordsLent x = Check.told("mx;px;mx", "109;019;021;201", many("a01", 11) + ";a02");
        wordIs(x, 0, 0, OPEN, 9);
        wordIs(x, 0, 1, PAID, 0);
        wordIs(x, 0, 2, OPEN, 1);
        wordIs(x, 0, 3, OPEN, 1);
        due("silent", x.silent(), 5);
        x.echo(0, 0);
        due("an echo says nothing for it", x.at(23, 0, 3), 0);
    }

    /** "On a DAY of an ECHO of who SAYS it, it is SAID, but for no USE less." */
    private static void echoesPayNothing() {
        for (int day = 0; day < 24; day++) {
            String meetings = (char) ('a' + day) + "01;" + (char) ('a' + day) + "10";
            WordsLent x = Check.told("px;px", "109;019", meetings);
            int before = x.stands(day, 0, 1);
            x.echo(Math.max(0, day - 1), day == 0 ? 2 : 0);
            x.echo(Math.min(23, day + 1), day == 23 ? 2 : 0);
            due("the day before and the day behind", x.stands(day, 0, 1), before);
            x.echo(day, 0);
            due("both of its meetings", x.stands(day, 0, 1), Math.min(9, before + 2));
            due("the other one's word", x.stands(day, 1, 1), before);
            due("said", x.at(day, 0, 3), 2);
            x.echo(day, 0);
            due("an echo more of the same", x.stands(day, 0, 1), Math.min(9, before + 2));
        }
        WordsLent one = Check.told("px;px", "101", "a01;b01");
        one.echo(0, 0);
        wordIs(one, 0, 0, OPEN, 1);
        wordIs(one, 1, 0, PAID, 0);
        due("said twice", one.at(1, 0, 3), 2);
    }

    private static void echoesOfEachSort() {
        WordsLent preacher = Check.told("bx;px", "102", "a01");
        preacher.echo(0, 0);
        wordIs(preacher, 0, 0, OPEN, 2);
        due("a preacher said it", preacher.at(0, 0, 3), 1);
        WordsLent orphan = Check.told("ox;px", "102", "a01;b01;c01;d01");
        orphan.echo(0, 0);
        due("an orphan stammers in an echo, too", orphan.at(0, 0, 3), 0);
        wordIs(orphan, 3, 0, PAID, 0);
        orphan.echo(1, 0);
        due("said", orphan.at(1, 0, 3), 1);
        wordIs(orphan, 2, 0, OPEN, 2);
        wordIs(orphan, 3, 0, OPEN, 1);
        due("said", orphan.at(3, 0, 3), 2);
    }

    /** "those whose DAY it is DIE, and are DEAD from then on" */
    private static void deathsOnEachDay() {
        for (int dies = 0; dies < 24; dies++) {
            WordsLent x = Check.told("px;p" + (char) ('a' + dies), "011;101", "");
            for (int day = 0; day < 24; day++) {
                due("dead", x.at(day, 1, 0), day >= dies ? 1 : 0);
                due("what it owes", x.stands(day, 0, 0), day >= dies ? LOST : OPEN);
                int lent = dies == 23 ? LOST : PRAYER;
                due("what it lent", x.stands(day, 1, 0), day >= dies ? lent : OPEN);
            }
        }
    }

    /** What is a PRAYER or LOST is OPEN no more: a later death, a later MEETING makes it nothing else. */
    private static void prayersAndLostOnesStay() {
        WordsLent x = Check.told("pc;pf;px", "019;109", "d01;d02;e12");
        wordIs(x, 2, 0, PRAYER, 9);
        wordIs(x, 5, 0, PRAYER, 9);
        wordIs(x, 23, 0, PRAYER, 9);
        wordIs(x, 2, 1, LOST, 9);
        wordIs(x, 5, 1, LOST, 9);
        wordIs(x, 23, 1, LOST, 9);
        due("a paid one stays paid", Check.told("pb;pb", "011", "b01").stands(23, 0, 0), PAID);
    }

    /** "(what the DEAD owe to the DEAD of that DAY, LOST)" */
    private static void dyingOnOneDay() {
        WordsLent one = Check.told("pk;pk;px", "013;103;203;023", "");
        wordIs(one, 9, 0, OPEN, 4);
        wordIs(one, 10, 0, LOST, 4);
        wordIs(one, 10, 1, LOST, 4);
        wordIs(one, 10, 2, LOST, 4);
        wordIs(one, 10, 3, PRAYER, 4);
        // A DAY between them, either way.
        wordIs(Check.told("pk;pl", "013", ""), 23, 0, PRAYER, 4);
        wordIs(Check.told("pl;pk", "013", ""), 23, 0, LOST, 4);
    }

    /** "how many USES one OWES by what is OPEN; how many one is OWED" */
    private static void owesAndIsOwed() {
        WordsLent most = Check.told("px;px", many("109", 12), "");
        for (int day = 0; day < 24; day++) {
            due("owes the most", most.at(day, 0, 1), day < 23 ? 108 : 0);
            due("is owed the most", most.at(day, 1, 2), day < 23 ? 108 : 0);
            due("is owed nothing", most.at(day, 0, 2), 0);
            due("owes nothing", most.at(day, 1, 1), 0);
        }
        WordsLent x = Check.told("px;px;pc;px", "102;203;304;024;035", "a01;b01");
        due("owes", x.at(0, 0, 1), 8);
        due("owes, one is paid", x.at(1, 0, 1), 7);
        due("owes, one is a prayer", x.at(2, 0, 1), 4);
        due("is owed", x.at(0, 0, 2), 9);
        due("is owed, one is lost", x.at(2, 0, 2), 5);
        due("is owed, on day 6", x.at(6, 0, 2), 6);
        due("the dead are owed nothing", x.at(2, 2, 2), 0);
        due("the dead owe nothing", x.at(2, 2, 1), 0);
    }

    /** "how often one SAID a WORD" */
    private static void saysUpToTwelve() {
        WordsLent x = Check.told("px;px", "109;109;019", many("c01", 12));
        due("before", x.at(1, 0, 3), 0);
        due("twelve times", x.at(2, 0, 3), 12);
        due("as often as there was one", x.at(2, 1, 3), 9);
        due("ever after", x.at(23, 0, 3), 12);
    }

    /** "the first DAY behind which one OWES nothing by OPEN ones, and nothing that one owed is LOST; NONE" */
    private static void clearEdges() {
        due("on day 0", Check.told("pa;px", "101", "a01").clear(0), 0);
        due("owes nothing", Check.told("pa", "", "").clear(0), 0);
        due("on day 23", Check.told("px;px", "101", many("x01", 4)).clear(0), 23);
        due("one use is left on day 23", Check.told("px;px", "101", many("x01", 3)).clear(0), -1);
        due("a prayer on day 22", Check.told("px;pw", "101", "").clear(0), 22);
        due("lost on day 23", Check.told("px;px", "101", "").clear(0), -1);
        due("lost on day 0", Check.told("pa;px", "101", "").clear(0), -1);
        due("one paid, one lost", Check.told("pc;px", "101;101", "a01").clear(0), -1);
        due("one lost, one a prayer", Check.told("pd;pc;px", "101;201", "").clear(0), -1);
        due("one paid, one a prayer", Check.told("px;pc;px", "101;201", "a02").clear(0), 2);
        due("another one's is lost", Check.told("px;pa;px", "011;201", "b02").clear(0), 1);
        WordsLent eight = Check.told(many("px", 8), "671", "e67");
        due("the last one", eight.clear(7), 4);
        due("no ninth one", eight.clear(8), -2);
    }

    /** "to whom most is OWED behind a DAY, of like ones the least; NONE: nothing is to anybody" */
    private static void bankEdges() {
        WordsLent like = Check.told("px;px;px;px", "232;323;103;011", "");
        due("like ones", like.bank(0), 1);
        due("like ones, on the last day but one", like.bank(22), 1);
        due("nothing is owed", like.bank(23), -1);
        due("the last one", Check.told(many("px", 8), "709;079;071;701;701", "").bank(0), 7);
        due("one use is enough", Check.told("px;px", "101", "").bank(0), 1);
        due("nobody", new WordsLent().bank(23), -1);
        due("nothing but paid ones", Check.told("px;px", "101", "a01").bank(0), -1);
        due("nothing but a prayer", Check.told("px;pa", "101", "").bank(0), -1);
        due("nothing but a lost one", Check.told("pa;px", "101", "").bank(0), -1);
        due("nothing but a void one", Check.told("px;px", "111;121", "").bank(0), -1);
    }

    private static void ringIs(WordsLent x, int day, int many, int least) {
        due("ring, how many", x.ring(day, 0), many);
        due("ring, the least", x.ring(day, 1), least);
    }

    /** "the fewest PEOPLE of whom each OWES .. to the next, the last to the first: how many; the least" */
    private static void ringEdges() {
        String eight = many("px", 8);
        String round = "101;211;321;431;541;651;761;071";
        ringIs(Check.told(eight, round, ""), 0, 8, 0);
        ringIs(Check.told(eight, round.substring(0, 27), ""), 0, -1, -1);
        ringIs(Check.told(eight, round + ";671;571", ""), 0, 2, 6);
        ringIs(Check.told(eight, round + ";571", ""), 0, 3, 5);
        ringIs(Check.told("px;px", "101;011", ""), 0, 2, 0);
        ringIs(Check.told("px;px", "011;011;001;111", ""), 0, -1, -1);
        ringIs(Check.told("px;px;px", "101;101;211", ""), 0, -1, -1);
        // Two ways that meet again are no ring: each OWES to the next.
        ringIs(Check.told("px;px;px;px", "101;201;311;321", ""), 0, -1, -1);
        // The least in any of those that are so few, not in the first one found or told.
        ringIs(Check.told(eight, "671;761;451;541;321;231", ""), 0, 2, 2);
        // One who owes into a ring is not in it.
        ringIs(Check.told("px;px;px", "101;211;121", ""), 0, 2, 1);
        ringIs(new WordsLent(), 0, -1, -1);
    }

    /** "(by OPEN ones), behind a DAY" */
    private static void ringsEnd() {
        WordsLent paid = Check.told("px;px", "101;011", "c01");
        ringIs(paid, 1, 2, 0);
        ringIs(paid, 2, -1, -1);
        WordsLent onePaid = Check.told("px;px", "101;012", "c01");
        ringIs(onePaid, 1, 2, 0);
        ringIs(onePaid, 2, -1, -1);
        WordsLent lastPaid = Check.told(many("px", 8), "671;762", "c67");
        ringIs(lastPaid, 1, 2, 6);
        ringIs(lastPaid, 2, -1, -1);
        WordsLent lost = Check.told("px;pc;px", "101;011", "");
        ringIs(lost, 1, 2, 0);
        ringIs(lost, 2, -1, -1);
        WordsLent prayer = Check.told("px;pk;px;px", "101;011;321;231", "");
        ringIs(prayer, 9, 2, 0);
        ringIs(prayer, 10, 2, 2);
        ringIs(prayer, 22, 2, 2);
        ringIs(prayer, 23, -1, -1);
    }

    /** "PEOPLE that never SAID a WORD, as bits" */
    private static void silentEdges() {
        due("nobody there", new WordsLent().silent(), 0);
        due("all eight", Check.told(many("px", 8), "", "").silent(), 255);
        due("all but the last", Check.told(many("px", 8), "071", "a07").silent(), 127);
        due("all but the first", Check.told(many("px", 8), "701", "a07").silent(), 254);
        due("on the last day", Check.told("px;px", "101", "x01").silent(), 2);
        due("dead ones, too", Check.told("pa;px", "101", "b01").silent(), 3);
        WordsLent echoed = Check.told("px;px", "101", "a01");
        echoed.echo(0, 0);
        due("an echo is said", echoed.silent(), 2);
    }
}

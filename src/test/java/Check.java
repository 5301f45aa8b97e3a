/** Counts what is not as due, and makes objects from texts. */
final class Check {
    private final String name;
    private int looked;
    private int wrong;

    Check(String name) {
        this.name = name;
    }

    static WordsLent told(String people, String words, String meetings) {
        WordsLent x = new WordsLent();
        put(x, 0, people);
        put(x, 1, words);
        put(x, 2, meetings);
        return x;
    }

    /** As many PEOPLE, WORDS and MEETINGS as there may be: no room is left in any text. */
    static WordsLent full() {
        return told("px;ox;mx;bx;px;px;px;pw", "012;103;021;343;234;411;302;555;111;679;766;074",
                "a01;b10;c01;c34;e43;f23;g10;h01;i40;j14;k03;l67");
    }

    /** One thing so many times, with ; between them. */
    static String many(String thing, int n) {
        return n == 0 ? "" : thing + (";" + thing).repeat(n - 1);
    }

    static void put(WordsLent x, int text, String bytes) {
        for (int i = 0; i < bytes.length(); i++) {
            x.type(text, bytes.charAt(i));
        }
    }

    void due(String call, long got, long want) {
        looked++;
        if (got != want) {
            wrong++;
            if (wrong <= 50) {
                System.out.println(name + ": " + call + " answered " + got + ", due is " + want);
            }
        }
    }

    void end() {
        System.out.println(name + ": " + looked + " answers, " + wrong + " not as due");
        if (wrong != 0 || looked == 0) {
            System.exit(1);
        }
    }
}

/** What the tests by hand share: which sentence is being tested, and objects told to be so and so. */
abstract class Told {
    static final int NO_SUCH = -1000000;
    static final int LEAST = Integer.MIN_VALUE;
    static final int MOST = Integer.MAX_VALUE;
    private static final Check CHECK = new Check();
    private static String sentence = "";

    Told() {
    }

    /** The words that the checks from here on hold the class to. */
    static void says(String promise, String words) {
        sentence = "promise " + promise + (words.isEmpty() ? ": " : " (" + words + "): ");
    }

    static void finish() {
        CHECK.finish();
    }

    static void due(String what, long got, long want) {
        CHECK.due(sentence + what, got, want);
    }

    static void yes(String what, boolean got) {
        CHECK.due(sentence + what, got, true);
    }

    static void no(String what, boolean got) {
        CHECK.due(sentence + what, got, false);
    }

    static void same(String what, String got, String want) {
        due(got.equals(want) ? what : what + ": " + got + " instead of " + want, got.equals(want) ? 1 : 0, 1);
    }

    // ---- telling

    static ByAlphabet tell(ByAlphabet x, String text) {
        return Check.tell(x, text);
    }

    static ByAlphabet made(int letters) {
        ByAlphabet x = new ByAlphabet();
        x.letters(letters);
        return x;
    }

    static ByAlphabet people(int letters, String... names) {
        ByAlphabet x = made(letters);
        for (String name : names) {
            tell(x, name).person(0, 0, 0);
        }
        return x;
    }

    static ByAlphabet alike(int many, String name) {
        ByAlphabet x = new ByAlphabet();
        for (int p = 0; p < many; p++) {
            tell(x, name).person(0, 0, 0);
        }
        return x;
    }

    /** Each told as an order, a weight and a price. */
    static ByAlphabet voters(int letters, String... told) {
        ByAlphabet x = made(letters);
        for (int i = 0; i + 2 < told.length; i += 3) {
            tell(x, told[i]).voter(Integer.parseInt(told[i + 1]), Integer.parseInt(told[i + 2]));
        }
        return x;
    }

    static ByAlphabet sells(ByAlphabet x, String... names) {
        for (String name : names) {
            tell(x, name).sell();
        }
        return x;
    }

    static ByAlphabet fees(ByAlphabet x, int change, int take, int drop) {
        x.set(2, change);
        x.set(3, take);
        x.set(4, drop);
        return x;
    }

    // ---- asking

    static int fed(ByAlphabet x) {
        return x.feed(0, 0, 0, 0, 0);
    }

    /** The TAPE has nothing; it is left so. */
    static void tapeIsEmpty(String behind, ByAlphabet x) {
        due("the tape is empty behind " + behind, fed(x), 20);
        x.end(0);
    }

    static int with(ByAlphabet x, int p, String name, int what) {
        return tell(x, name).with(p, what);
    }

    static String alphabetOf(ByAlphabet x) {
        StringBuilder s = new StringBuilder();
        for (int i = 0; i < x.look(0); i++) {
            s.append((char) ('a' + x.look(10 + i)));
        }
        return s.toString();
    }

    static String nameOf(ByAlphabet x, int p) {
        StringBuilder s = new StringBuilder();
        for (int i = 0; i < x.of(p, 3); i++) {
            s.append((char) ('a' + x.of(p, 10 + i)));
        }
        return s.toString();
    }

    static String voteOf(ByAlphabet x, int rule) {
        StringBuilder s = new StringBuilder();
        for (int i = 0; i < x.look(0); i++) {
            s.append((char) ('a' + x.vote(rule, i)));
        }
        return s.toString();
    }

    static String leastOf(ByAlphabet x) {
        StringBuilder s = new StringBuilder();
        for (int i = 0; i < x.look(0); i++) {
            s.append((char) ('a' + x.least(10 + i)));
        }
        return s.toString();
    }

    /** The numbers of PEOPLE, 0 .. 9 and then :, ;, <, .., in the list by THE ALPHABET. */
    static String listOf(ByAlphabet x) {
        char[] s = new char[x.look(1)];
        for (int p = 0; p < s.length; p++) {
            s[x.of(p, 4)] = (char) ('0' + p);
        }
        return new String(s);
    }

    /** WORTHS by THE ALPHABET of all PEOPLE, by number. */
    static String worths(ByAlphabet x) {
        StringBuilder s = new StringBuilder();
        for (int p = 0; p < x.look(1); p++) {
            s.append(p == 0 ? "" : " ").append(x.worth(p, -1));
        }
        return s.toString();
    }

    /** An object with something of all that can be told, and an empty TAPE. */
    static ByAlphabet full() {
        ByAlphabet x = made(3);
        tell(x, "ab").person(0, 30, 100);
        tell(x, "c").person(1, 40, 50);
        tell(x, "bx").person(1, 50, 5);
        x.site(0, 0, 10, 3, 2);
        x.site(5, 1, -7, 2, 3);
        tell(x, "bca").chance(0, 2);
        tell(x, "cab").chance(5, 3);
        tell(x, "cba").voter(2, 7);
        tell(x, "acb").voter(1, 3);
        sells(x, "a", "ca");
        tell(x, "bar when letters>3;may when twice=0;bar;").text();
        int[] told = {1, 2, 3, 4, 5, 6, 1};
        for (int what = 0; what < 7; what++) {
            x.set(what, told[what]);
        }
        tell(x, "bac").alphabet();
        x.state(12345);
        x.years(3);
        return x;
    }

    /** All that can be asked without the TAPE. */
    static String pictureOf(ByAlphabet x) {
        StringBuilder s = new StringBuilder();
        for (int what = 0; what < 27; what++) {
            s.append(x.look(what)).append(' ');
        }
        for (int p = 0; p < x.look(1); p++) {
            s.append("| ").append(nameOf(x, p)).append(' ');
            for (int i = -1; i < 6; i++) {
                s.append(x.worth(p, i)).append(' ');
            }
            for (int what = 0; what < 5; what++) {
                s.append(x.of(p, what)).append(' ').append(x.expected(p, what)).append(' ').append(x.wed(p, what)).append(' ');
            }
        }
        for (int what = 0; what < 3; what++) {
            s.append("rest ").append(x.rest(what)).append(" vote ").append(voteOf(x, what)).append(' ');
            s.append(x.over(what, 0)).append(' ').append(x.buy(0, 1, what, 0)).append(' ').append(x.buy(1, 0, what, 1)).append(' ');
        }
        return s.append(x.circle()).append(' ').append(x.least(0)).append(" fault ").append(x.fault(0)).append(' ')
                .append(x.fault(1)).toString();
    }

    /** A call that was answered with NONE or false changed nothing of what can be asked without the TAPE. */
    static void nothingIsDone(String call, ByAlphabet x, String before) {
        same("nothing is done by " + call, pictureOf(x), before);
    }
}

/** The edges of promises 27 to 32, sentence by sentence: HARM, SORTED ANEW, YEARS GO BY, THE IMAGE, look. */
public final class BoundaryLandTests extends Told {
    private BoundaryLandTests() {
    }

    public static void main(String[] args) {
        harmOfNobody();
        lossIsNotBelowZero();
        ranksOfThoseAlike();
        harmOfTwenty();
        refusedHarm();
        lettersThatAreTried();
        otherThanTheAlphabet();
        leastIsTheFirst();
        leastOfOneOther();
        refusedLeast();
        sortedOfFew();
        sortedOfTwenty();
        leastSetAsNumber();
        tiesStayTies();
        refusedAnew();
        howManyYears();
        refusedYears();
        ageAboveNinetyNine();
        noMarketNoDraw();
        drawsByNumber();
        coinAsAllStandAhead();
        eachTenthYear();
        voteBehindAllThat();
        manyYearsAtOnce();
        noImage();
        imageMoreThanOnce();
        imageOfTheBeginning();
        imageWithoutTapeAndFault();
        imageTakenAnew();
        looksAtFirst();
        looksAtLetters();
        looksAtSettings();
        otherLooks();
        finish();
    }

    // ---- promises 27 to 29

    private static void harmOfNobody() {
        says("27", "LOSSES times (PEOPLE less RANK), added");
        for (int k = 2; k <= 8; k++) {
            due("nobody", tell(made(k), "hgfedcba".substring(8 - k)).harm(), 0);
        }
        ByAlphabet x = people(2, "a", "b");
        due("nothing to lose", tell(x, "ba").harm(), 0);
        x.site(0, 0, 99, 0, 1);
        due("the alphabet itself", tell(x, "ab").harm(), 0);
        tapeIsEmpty("harm", x);
        ByAlphabet one = people(2, "a");
        one.site(0, 0, 99, 0, 1);
        due("the only one", tell(one, "ba").harm(), 0);
    }

    private static void lossIsNotBelowZero() {
        says("27", "LOSS: WORTH by THE ALPHABET less that by the ORDER, 0 at least");
        ByAlphabet x = people(2, "a", "b");
        x.site(0, 0, 10, 0, 1);
        due("10 lost once, 10 won", tell(x, "ba").harm(), 10);
        x.site(0, 0, -10, 0, 1);
        due("10 won, 10 lost by the better one", tell(x, "ba").harm(), 10);
        x.site(1, 1, -10, 0, 1);
        due("nothing won or lost", tell(x, "ba").harm(), 0);
        ByAlphabet y = people(3, "b", "a", "c");
        y.site(0, 0, 30, 10, 3);
        // Worths 20, 30, 10; by cab 10, 20, 30: 10 times 2, 10 times 1
        due("two lose", tell(y, "cab").harm(), 30);
        due("the tape is told anew", tell(y, "acb").harm(), 20);
    }

    private static void ranksOfThoseAlike() {
        says("27", "RANK of one: how many have a lesser WORTH by THE ALPHABET (or alike with a lesser number)");
        ByAlphabet x = people(3, "a", "b", "c");
        x.site(0, 0, -6, 0, 1);
        // Worths -6, 0, 0; ranks 0, 1, 2
        due("the first of those alike", tell(x, "bac").harm(), 12);
        due("the second of those alike", tell(x, "cab").harm(), 6);
        tell(x, "cab").alphabet();
        // Worths 0, 0, -6; ranks 1, 2, 0
        due("the first of those alike", tell(x, "abc").harm(), 12);
        due("the second of those alike", tell(x, "bca").harm(), 6);
    }

    private static ByAlphabet twoLetterPeople() {
        ByAlphabet x = new ByAlphabet();
        for (int p = 0; p < 20; p++) {
            tell(x, "" + (char) ('a' + p / 5) + (char) ('a' + p % 5)).person(0, 0, 0);
        }
        return x;
    }

    private static void harmOfTwenty() {
        says("27", "PEOPLE less RANK");
        ByAlphabet x = twoLetterPeople();
        x.site(0, 0, 99, 0, 1);
        // The best of twenty has rank 19.
        due("the best loses 99 once", tell(x, "edcba").harm(), 99);
        x.site(0, 1, -99, 0, 1);
        // By edcba the last is 0 instead of 19; 0 is the worst of those alike but 19.
        due("0 loses 99 times 19", tell(x, "edcba").harm(), 99 * 19);
        x.site(0, 0, 20, 1, 20);
        // p has 20 - p, then 1 + p: those below 10 lose 19 - 2 p, with ranks 19 - p, times 1 + p
        int sum = 0;
        for (int p = 0; p < 10; p++) {
            sum += (19 - 2 * p) * (1 + p);
        }
        due("turned round", tell(x, "edcba").harm(), sum);
    }

    private static void refusedHarm() {
        says("27", "NONE if it is none");
        ByAlphabet x = full();
        String before = pictureOf(x);
        for (String order : new String[] {"", "ab", "abcd", "aab", "abd", "ABC", "ab ", "\u00ffbc", "a".repeat(400)}) {
            due("order " + order, tell(x, order).harm(), -1);
            tapeIsEmpty("order " + order, x);
        }
        nothingIsDone("harm", x, before);
    }

    private static void lettersThatAreTried() {
        says("28", "K 6 at most; else none; NONE if one can't be (K above 6)");
        for (int k = 2; k <= 8; k++) {
            ByAlphabet x = made(k);
            due("how much of " + k, x.least(0), k <= 6 ? 0 : -1);
            due("letter 0 of " + k, x.least(10), k > 6 ? -1 : k == 2 ? 1 : 0);
            due("the last letter of " + k, x.least(10 + k - 1), k <= 6 ? k - 2 : -1);
            due("none behind it", x.least(10 + k), -1);
        }
    }

    private static void otherThanTheAlphabet() {
        says("28", "the first (the lesser LETTER at the first unlikeness) other than THE ALPHABET");
        String[] alphabets = {"abcdef", "abcdfe", "abcedf", "fedcba", "bacdef", "acbdef"};
        String[] due = {"abcdfe", "abcdef", "abcdef", "abcdef", "abcdef", "abcdef"};
        for (int i = 0; i < due.length; i++) {
            ByAlphabet x = made(6);
            tell(x, alphabets[i]).alphabet();
            same("nobody is harmed", leastOf(x), due[i]);
            due("how much", x.least(0), 0);
        }
    }

    private static void leastIsTheFirst() {
        says("28", "LEAST HARM of all ORDERS: the first");
        ByAlphabet x = people(3, "a", "b", "c");
        x.site(0, 0, 10, 0, 1);
        // With a first nobody loses: acb is the first other one.
        same("acb", leastOf(x), "acb");
        tell(x, "acb").alphabet();
        same("abc", leastOf(x), "abc");
        tell(x, "cba").alphabet();
        // With c first: cab
        same("cab", leastOf(x), "cab");
        due("none", x.least(0), 0);
        x.site(0, 0, 10, 1, 3);
        // Worths 8, 9, 10: bca takes 1 from c; cab 1 from b, times 2
        same("bca", leastOf(x), "bca");
        due("1 once", x.least(0), 1);
        ByAlphabet last = people(6, "a", "b", "c", "d", "e", "f");
        tell(last, "efdcba").alphabet();
        last.site(0, 0, 10, 1, 6);
        same("the last of all", leastOf(last), "fedcba");
    }

    private static void leastOfOneOther() {
        says("28", "other than THE ALPHABET");
        ByAlphabet x = people(2, "a", "b");
        x.site(0, 0, 99, 0, 1);
        same("ba", leastOf(x), "ba");
        due("though it harms", x.least(0), 99);
        tell(x, "ba").alphabet();
        same("ab", leastOf(x), "ab");
        due("though it harms", x.least(0), 99);
    }

    private static void refusedLeast() {
        says("28", "NONE if one can't be, or another what");
        ByAlphabet x = full();
        String before = pictureOf(x);
        for (int what : new int[] {-1, 1, 2, 9, 13, 14, 20, LEAST, MOST, LEAST + 10}) {
            due("what " + what, x.least(what), -1);
        }
        tell(x, "cc");
        x.least(0);
        nothingIsDone("least", x, before);
        yes("the tape stays", x.named(0));
        same("as it was", nameOf(x, 0), "cc");
    }

    private static void sorted(String what, ByAlphabet x, String order, int moves, int stays) {
        due(what + ": moves", tell(x, order).anew(0), moves);
        tapeIsEmpty("anew", x);
        due(what + ": who stays", tell(x, order).anew(1), stays);
    }

    private static void sortedOfFew() {
        says("29", "with the fewest MOVES: how many; who STAYS");
        sorted("nobody", made(2), "ba", 0, 0);
        sorted("one", people(2, "a"), "ba", 0, 1);
        sorted("two, as they are", people(2, "a", "b"), "ab", 0, 3);
        sorted("two, turned round", people(2, "a", "b"), "ba", 1, 1);
        sorted("two, turned round", people(2, "b", "a"), "ba", 1, 1);
        sorted("the first to the end", people(4, "a", "b", "c", "d"), "bcda", 1, 14);
        sorted("the last to the front", people(4, "a", "b", "c", "d"), "dabc", 1, 7);
    }

    private static void sortedOfTwenty() {
        says("29", "of all greatest sets of PEOPLE that need not move");
        ByAlphabet x = twoLetterPeople();
        sorted("as they are", x, "abcde", 0, (1 << 20) - 1);
        sorted("turned round", x, "edcba", 19, 1);
        // 6 7 8 9 5, 11 12 13 14 10, 16 17 18 19 15, 1 2 3 4 0
        sorted("a behind all", x, "bcdea", 8, 0xf7bc0);
    }

    private static void leastSetAsNumber() {
        says("29", "that with the least numbers (as a set: the least as a number)");
        // By abcd 0 3 1 2, by cdab 1 2 0 3: {0, 3} or {1, 2} stay, as numbers 9 and 6.
        sorted("6 rather than 9", people(4, "a", "c", "d", "b"), "cdab", 2, 6);
        sorted("of {0, 2} {1, 2} {0, 3} {1, 3}", people(4, "a", "b", "c", "d"), "badc", 2, 5);
        sorted("of one each", people(4, "d", "c", "b", "a"), "dcba", 3, 1);
    }

    private static void tiesStayTies() {
        says("29", "the list of PEOPLE by THE ALPHABET becomes that by an ORDER");
        sorted("all alike", alike(20, "a"), "edcba", 0, (1 << 20) - 1);
        ByAlphabet x = people(2, "c", "", "d", "c");
        sorted("letters from abroad", x, "ba", 0, 15);
    }

    private static void refusedAnew() {
        says("29", "NONE if it is none, or another what");
        ByAlphabet x = full();
        String before = pictureOf(x);
        for (int what : new int[] {-1, 2, 3, LEAST, MOST}) {
            due("what " + what, tell(x, "abc").anew(what), -1);
            tapeIsEmpty("what " + what, x);
        }
        for (String order : new String[] {"", "ab", "abcd", "aab", "abd", "ABC", "ab "}) {
            for (int what = 0; what < 2; what++) {
                due("order " + order, tell(x, order).anew(what), -1);
                tapeIsEmpty("order " + order, x);
            }
        }
        nothingIsDone("anew", x, before);
    }

    // ---- promise 30

    private static void howManyYears() {
        says("30", "YEARS GO BY (1 .. 60): how many years there were in all");
        ByAlphabet x = new ByAlphabet();
        due("one", x.years(1), 1);
        due("sixty", x.years(60), 61);
        due("two", x.years(2), 63);
        due("59", x.years(59), 122);
        due("told", x.look(5), 122);
        for (int i = 0; i < 400; i++) {
            x.years(60);
        }
        due("very many", x.look(5), 24122);
    }

    private static void refusedYears() {
        says("30", "NONE, and nothing is done, if one can't be");
        ByAlphabet x = full();
        String before = pictureOf(x);
        for (int n : new int[] {0, 61, -1, 62, -60, LEAST, MOST}) {
            due("years " + n, x.years(n), -1);
            nothingIsDone("years " + n, x, before);
        }
    }

    private static void ageAboveNinetyNine() {
        says("30", "is a year older; by number one above 99 takes the AGE 0");
        ByAlphabet x = sells(new ByAlphabet(), "b");
        tell(x, "a").person(0, 98, 0);
        tell(x, "a").person(0, 99, 0);
        tell(x, "a").person(0, 0, 0);
        int[][] ages = {{99, 0, 1}, {0, 1, 2}, {1, 2, 3}};
        String[][] names = {{"a", "b", "a"}, {"b", "b", "a"}, {"b", "b", "a"}};
        for (int year = 0; year < 3; year++) {
            x.years(1);
            for (int p = 0; p < 3; p++) {
                due("age", x.of(p, 1), ages[year][p]);
                same("name", nameOf(x, p), names[year][p]);
            }
        }
        x.years(60);
        x.years(36);
        due("99", x.of(2, 1), 99);
        x.years(1);
        due("0", x.of(2, 1), 0);
        due("COIN and SEX stay", x.of(2, 2), 0);
    }

    private static void noMarketNoDraw() {
        says("30", "the NAME of THE MARKET told by a DRAW (of how many there are; none, if there are none)");
        ByAlphabet x = new ByAlphabet();
        tell(x, "abc").person(0, 99, 0);
        x.state(7);
        x.years(1);
        same("none", nameOf(x, 0), "abc");
        due("no draw", x.look(6), 7);
        due("age 0", x.of(0, 1), 0);
        ByAlphabet y = sells(new ByAlphabet(), "z");
        tell(y, "abc").person(0, 98, 0);
        y.state(7);
        y.years(1);
        due("no draw at 99", y.look(6), 7);
        tell(y, "bar;").text();
        y.years(1);
        due("a draw of one", y.look(6), 7 * 1664525 + 1013904223);
        same("whether one may or not", nameOf(y, 0), "z");
    }

    private static void drawsByNumber() {
        says("30", "by number one above 99 takes .. the NAME .. told by a DRAW");
        ByAlphabet x = new ByAlphabet();
        for (int p = 0; p < 20; p++) {
            tell(x, "zz").person(0, p % 2 == 0 ? 99 : 50, 0);
        }
        for (int i = 0; i < 10; i++) {
            tell(x, String.valueOf((char) ('a' + i))).sell();
        }
        x.years(1);
        int state = 0;
        for (int p = 0; p < 20; p++) {
            if (p % 2 == 0) {
                state = 1664525 * state + 1013904223;
                due("drawn by " + p, x.of(p, 10), (state >>> 8) % 10);
                due("one letter", x.of(p, 3), 1);
            } else {
                same("not drawn by " + p, nameOf(x, p), "zz");
            }
        }
        due("ten draws", x.look(6), state);
    }

    private static void coinAsAllStandAhead() {
        says("30", "each year everyone gets WORTH by THE ALPHABET (as all stand ahead of it) as COIN");
        ByAlphabet x = alike(2, "a");
        x.site(0, 1, 5, 0, 1);
        x.set(1, 2);
        // The last by coin gets 5.
        x.years(1);
        same("the second", x.of(0, 2) + " " + x.of(1, 2), "0 5");
        x.years(1);
        same("the first, who has less", x.of(0, 2) + " " + x.of(1, 2), "5 5");
        // The names drawn, and ages, count from the next year on.
        ByAlphabet y = sells(made(3), "a");
        tell(y, "c").person(0, 99, 0);
        tell(y, "b").person(0, 0, 0);
        y.site(0, 0, 7, 0, 1);
        y.years(1);
        same("by the old name", y.of(0, 2) + " " + y.of(1, 2), "0 7");
        y.years(1);
        same("by the new one", y.of(0, 2) + " " + y.of(1, 2), "7 7");
        ByAlphabet z = made(3);
        tell(z, "b").person(0, 98, 0);
        tell(z, "b").person(0, 99, 0);
        z.site(0, 0, 7, 0, 1);
        z.set(1, 1);
        z.years(1);
        same("the older one at 99", z.of(0, 2) + " " + z.of(1, 2), "0 7");
        z.years(1);
        same("0 is not older", z.of(0, 2) + " " + z.of(1, 2), "7 7");
    }

    private static void eachTenthYear() {
        says("30", "if there were 10, 20, .. years in all now");
        ByAlphabet x = voters(3, "bca", "1", "0");
        String[] told = {"abc", "cab", "acb"};
        for (int tenth = 1; tenth <= 12; tenth++) {
            tell(x, told[tenth % 3]).alphabet();
            due("nine years", x.years(9), 10 * tenth - 1);
            same("no vote", alphabetOf(x), told[tenth % 3]);
            due("the tenth", x.years(1), 10 * tenth);
            same("a vote", alphabetOf(x), "bca");
        }
        tell(x, "acb").alphabet();
        x.years(1);
        same("not in the year behind it", alphabetOf(x), "acb");
        ByAlphabet none = made(3);
        tell(none, "cab").alphabet();
        none.years(10);
        same("without voters", alphabetOf(none), "cab");
    }

    private static void voteBehindAllThat() {
        says("30", "behind all that .. THE ALPHABET becomes the ORDER by THE RULE IN FORCE (0 at first)");
        ByAlphabet x = voters(2, "ba", "1", "0");
        tell(x, "a").person(0, 0, 0);
        tell(x, "b").person(0, 0, 0);
        x.site(0, 0, 1, 0, 1);
        x.years(10);
        same("the tenth year by the old one", x.of(0, 2) + " " + x.of(1, 2), "10 0");
        x.years(1);
        same("the eleventh by the new one", x.of(0, 2) + " " + x.of(1, 2), "10 1");
        // b and c alike by points, all alike by pairs; acb, bac and cba are the nearest to the circle.
        String[] due = {"abc", "abc", "acb"};
        for (int rule = 0; rule < 3; rule++) {
            ByAlphabet y = voters(3, "cba", "1", "0", "bac", "1", "0", "acb", "1", "0");
            tell(y, "cab").alphabet();
            if (rule > 0) {
                y.set(6, rule);
            }
            y.years(10);
            same("by rule " + rule, alphabetOf(y), due[rule]);
        }
        String[] other = {"bca", "abc", "bca"};
        for (int rule = 0; rule < 3; rule++) {
            ByAlphabet y = voters(3, "bca", "4", "0", "cab", "3", "0", "abc", "2", "0");
            y.set(6, rule);
            tell(y, "cab").alphabet();
            y.years(10);
            same("by rule " + rule, alphabetOf(y), other[rule]);
        }
    }

    private static void manyYearsAtOnce() {
        says("30", "YEARS GO BY");
        ByAlphabet x = full();
        ByAlphabet y = full();
        x.years(60);
        for (int i = 0; i < 60; i++) {
            y.years(1);
        }
        same("sixty at once, and one by one", pictureOf(x), pictureOf(y));
    }

    // ---- promises 31 and 32

    private static void noImage() {
        says("31", "false if there is none");
        ByAlphabet x = full();
        String before = pictureOf(x);
        for (int time = 0; time < 2; time++) {
            no("none", x.image(false));
            nothingIsDone("image", x, before);
        }
        yes("taken", x.image(true));
        nothingIsDone("taking it", x, before);
        yes("gone back to", x.image(false));
        nothingIsDone("going back at once", x, before);
    }

    /** Other than full() in all that can be told. */
    private static void changeAll(ByAlphabet x) {
        for (int p = 0; p < 3; p++) {
            tell(x, "bb").named(p);
        }
        tell(x, "cc").person(0, 1, 2);
        for (int s = 0; s < 6; s++) {
            x.site(s, 0, 50, 1, 20);
            tell(x, "abc").chance(s, 50);
        }
        tell(x, "bca").voter(9, 999);
        sells(x, "bc");
        tell(x, "bar;may;").text();
        int[] told = {2, 1, 9, 9, 9, 9, 2};
        for (int what = 0; what < 7; what++) {
            x.set(what, told[what]);
        }
        tell(x, "cba").alphabet();
        x.state(99);
        x.years(7);
    }

    /** Nobody and nothing at the place of those of full() that is as it was there. */
    private static void beOther(ByAlphabet x) {
        for (int i = 0; i < 5; i++) {
            tell(x, "zz").person(i == 0 ? 1 : 0, 7 + i, 7 + i);
            tell(x, "zzz").sell();
            tell(x, "bca").voter(9, 999);
        }
        tell(x, "bar;".repeat(16)).text();
    }

    private static void imageMoreThanOnce() {
        says("31", "all that is and was told .. as it was when it was taken; gone back to it may be more than once");
        ByAlphabet x = full();
        String before = pictureOf(x);
        yes("taken", x.image(true));
        for (int time = 0; time < 3; time++) {
            if (time == 1) {
                x.letters(3);
                beOther(x);
            } else {
                changeAll(x);
            }
            no("all is other", pictureOf(x).equals(before));
            yes("gone back to", x.image(false));
            same("as it was", pictureOf(x), before);
            due("NAMING as it was", with(x, 0, "aaaa", 0), 0);
            due("NAMING as it was", with(x, 0, "acb", 0), 1);
            due("the market as it was", x.take(0, 0), 5);
        }
    }

    private static void imageOfTheBeginning() {
        says("31", "as it was when it was taken");
        ByAlphabet x = new ByAlphabet();
        String before = pictureOf(x);
        yes("taken of nothing", x.image(true));
        x.letters(3);
        changeAll(x);
        yes("gone back to", x.image(false));
        same("as at first", pictureOf(x), before);
        ByAlphabet y = new ByAlphabet();
        for (String name : new String[] {"ab", "c"}) {
            tell(x, name).person(0, 5, 5);
            tell(y, name).person(0, 5, 5);
        }
        same("for all who come", pictureOf(x), pictureOf(y));
        due("NAMING is empty", with(x, 0, "zzz", 0), 1);
    }

    private static void imageWithoutTapeAndFault() {
        says("31", "but the TAPE and fault()");
        ByAlphabet x = full();
        tell(x, "may when 1/0=1;").text();
        tell(x, "cab");
        yes("taken", x.image(true));
        yes("the tape stays", x.alphabet());
        same("as it was", alphabetOf(x), "cab");
        tell(x, ";").text();
        tell(x, "bca");
        yes("gone back to", x.image(false));
        same("the alphabet", alphabetOf(x), "bac");
        due("the fault is the latest", x.fault(0), 1);
        due("its place", x.fault(1), 0);
        yes("the tape is the latest", x.alphabet());
        same("as it was", alphabetOf(x), "bca");
        x.image(false);
        tapeIsEmpty("image", x);
    }

    private static void imageTakenAnew() {
        says("31", "THE IMAGE is taken (true), or gone back to (false): true");
        ByAlphabet x = full();
        yes("taken", x.image(true));
        changeAll(x);
        String other = pictureOf(x);
        yes("taken anew", x.image(true));
        x.letters(2);
        yes("gone back to", x.image(false));
        same("the newer one", pictureOf(x), other);
        x.letters(2);
        yes("still", x.image(false));
        same("the newer one", pictureOf(x), other);
    }

    private static void looksAtFirst() {
        says("32", "0 K, 1 PEOPLE, 2 NAMES in THE MARKET, 3 VOTERS, 4 lines of NAMING, 5 years, 6 STATE");
        ByAlphabet x = new ByAlphabet();
        int[] first = {5, 0, 0, 0, 0, 0, 0};
        for (int what = 0; what < 7; what++) {
            due("look " + what, x.look(what), first[what]);
        }
        ByAlphabet y = made(8);
        for (int i = 0; i < 20; i++) {
            y.person(0, 0, 0);
            tell(y, "a").sell();
            tell(y, "abcdefgh").voter(1, 1);
        }
        tell(y, "may;".repeat(16)).text();
        y.years(60);
        y.state(LEAST);
        int[] most = {8, 20, 10, 12, 16, 60, LEAST};
        for (int what = 0; what < 7; what++) {
            due("look " + what, y.look(what), most[what]);
        }
        y.state(MOST);
        due("STATE", y.look(6), MOST);
        y.state(-1);
        due("STATE", y.look(6), -1);
    }

    private static void looksAtLetters() {
        says("32", "10 + i LETTER i of THE ALPHABET");
        for (int k = 2; k <= 8; k++) {
            ByAlphabet x = made(k);
            tell(x, "hgfedcba".substring(8 - k)).alphabet();
            for (int i = 0; i < 10; i++) {
                due("letter " + i + " of " + k, x.look(10 + i), i < k ? k - 1 - i : -1);
            }
        }
    }

    private static void looksAtSettings() {
        says("32", "20 + k what was told as set() k");
        ByAlphabet x = new ByAlphabet();
        int[] first = {0, 0, 1, 1, 1, 1, 0};
        int[] told = {1, 2, 3, 4, 5, 6, 2};
        for (int k = 0; k < 7; k++) {
            due("at first " + k, x.look(20 + k), first[k]);
            x.set(k, told[k]);
        }
        for (int k = 0; k < 7; k++) {
            due("told " + k, x.look(20 + k), told[k]);
        }
    }

    private static void otherLooks() {
        says("32", "NONE for another what");
        ByAlphabet x = full();
        for (int what : new int[] {-1, -2, 7, 8, 9, 13, 17, 18, 19, 27, 28, 30, 100, LEAST, MOST, LEAST + 10, MOST - 10}) {
            due("look " + what, x.look(what), -1);
        }
    }
}

/** The edges of promises 17 to 20, sentence by sentence: who MAY have a NAME, FEES, GAIN, THE MARKET, AT REST. */
public final class BoundaryNameTests extends Told {
    private static final int[] NO_PERSON = {-1, 3, 4, 19, 20, 21, -2, LEAST, MOST};

    private BoundaryNameTests() {
    }

    public static void main(String[] args) {
        noLineIsSo();
        firstLineThatIsSo();
        howManyLetters();
        placesOfFirstAndLast();
        howManyAlike();
        howManyFromAbroad();
        lettersTwice();
        ageCoinSexAndWorth();
        comparisonsAtTheEdge();
        intsWrap();
        partsGoTowardsZero();
        conditionsEightDeep();
        feesAtFirst();
        feesOfNothing();
        greatestFees();
        leastWay();
        gains();
        worthWithName();
        refusedWith();
        tenNames();
        refusedSell();
        coinForTheFee();
        coinBelowZero();
        takenByOneWhoMay();
        refusedTake();
        nothingToRestOn();
        gainAboveZero();
        ofSeveralTheFirst();
        namesThatOneMayHave();
        nothingStays();
        restByForty();
        circleByForty();
        circleFromTheStart();
        eachByItself();
        refusedRest();
        finish();
    }

    private static void noLineIsSo() {
        says("17", "yes without one");
        ByAlphabet x = alike(1, "a");
        due("no lines", with(x, 0, "b", 0), 1);
        tell(x, "bar when 1=2;".repeat(16)).text();
        due("no bar", with(x, 0, "b", 0), 1);
        tell(x, "may when 1=2;".repeat(16)).text();
        due("no may", with(x, 0, "b", 0), 1);
    }

    private static void firstLineThatIsSo() {
        says("17", "by the first line whose B is so, or that has none (may: yes; bar: no)");
        ByAlphabet x = alike(1, "a");
        String[] texts = {"bar;", "may;", "bar;may;", "may;bar;", "bar when 1=1;may;", "may when 1=1;bar;", "bar when 1=2;may;",
            "may when 1=2;bar;", "bar when 1=2;may when 1=2;bar;may;", "bar when 1=2;".repeat(15) + "bar;",
            "may when 1=2;".repeat(15) + "bar when 1=1;"};
        int[] may = {0, 1, 0, 1, 0, 1, 1, 0, 0, 0, 0};
        for (int i = 0; i < texts.length; i++) {
            tell(x, texts[i]).text();
            due(texts[i], with(x, 0, "b", 0), may[i]);
        }
    }

    /** By NAMING the NAME may be had if, and only if, the fact is just so much. */
    private static void fact(ByAlphabet x, String name, String fact, int due) {
        String value = due < 0 ? "0-" + -due : "" + due;
        due("text", tell(x, "may when " + fact + "=" + value + ";bar;").text(), 2);
        due(fact + " of '" + name + "' is " + due, with(x, 0, name, 0), 1);
        due("text", tell(x, "bar when " + fact + "=" + value + ";may;").text(), 2);
        due(fact + " of '" + name + "' is " + due + " alone", with(x, 0, name, 0), 0);
    }

    private static void howManyLetters() {
        says("17", "letters: how many");
        ByAlphabet x = alike(1, "abc");
        for (int n = 0; n <= 6; n++) {
            fact(x, "zazaza".substring(0, n), "letters", n);
        }
    }

    private static void placesOfFirstAndLast() {
        says("17", "places of its first, last one in THE ALPHABET (0 ..; K from ABROAD; K and 1 without letters)");
        for (int k = 2; k <= 8; k++) {
            ByAlphabet x = people(k, "a");
            String plain = "abcdefgh".substring(0, k);
            tell(x, new StringBuilder(plain).reverse().toString()).alphabet();
            String last = plain.substring(k - 1);
            String abroad = String.valueOf((char) ('a' + k));
            fact(x, last + "aa", "first", 0);
            fact(x, "a" + last, "first", k - 1);
            fact(x, abroad + "a", "first", k);
            fact(x, "za", "first", k);
            fact(x, "", "first", k + 1);
            fact(x, "aa" + last, "last", 0);
            fact(x, last + "a", "last", k - 1);
            fact(x, "a" + abroad, "last", k);
            fact(x, "aaaaaz", "last", k);
            fact(x, "", "last", k + 1);
            fact(x, "a", "last", k - 1);
        }
    }

    private static void howManyAlike() {
        says("17", "like: how many first letters it has as the NAME of now");
        String[][] all = {{"", "", "0"}, {"", "abc", "0"}, {"abc", "", "0"}, {"abc", "abc", "3"}, {"abc", "ab", "2"}, {"ab", "abc", "2"},
            {"abcabc", "abcabc", "6"}, {"abcabc", "abcabd", "5"}, {"abc", "xbc", "0"}, {"zbc", "zcb", "1"}, {"abc", "adc", "1"}};
        for (String[] one : all) {
            fact(alike(1, one[0]), one[1], "like", Integer.parseInt(one[2]));
        }
    }

    private static void howManyFromAbroad() {
        says("17", "abroad: how many are from ABROAD");
        ByAlphabet x = people(2, "a");
        fact(x, "", "abroad", 0);
        fact(x, "ababab", "abroad", 0);
        fact(x, "ababac", "abroad", 1);
        fact(x, "czczcz", "abroad", 6);
        fact(people(8, "a"), "hhhhhi", "abroad", 1);
    }

    private static void lettersTwice() {
        says("17", "twice (1, if a letter comes again, else 0)");
        ByAlphabet x = alike(1, "a");
        String[] once = {"", "a", "z", "az", "abcxyz"};
        String[] again = {"aa", "zz", "abcxya", "zbcxyz", "abcdee", "aaaaaa", "azaz"};
        for (String name : once) {
            fact(x, name, "twice", 0);
        }
        for (String name : again) {
            fact(x, name, "twice", 1);
        }
    }

    private static void ageCoinSexAndWorth() {
        says("17", "age, coin, sex of one; worth: WORTH by THE ALPHABET as one is named now");
        ByAlphabet x = new ByAlphabet();
        tell(x, "a").person(1, 99, 9999);
        fact(x, "b", "age", 99);
        fact(x, "b", "coin", 9999);
        fact(x, "b", "sex", 1);
        fact(x, "b", "worth", 0);
        for (int s = 0; s < 6; s++) {
            x.site(s, s & 1, -99, 0, 1);
        }
        fact(x, "b", "worth", -594);
        x.years(1);
        fact(x, "b", "age", 0);
        fact(x, "b", "coin", 9405);
        x.years(16);
        fact(x, "b", "coin", -99);
        tell(x, "c").person(0, 0, 0);
        for (int s = 0; s < 6; s++) {
            x.site(s, 0, 99, 0, 1);
        }
        fact(x, "z", "worth", 594);
        due("though it would be worth less", with(x, 0, "z", 3), 0);
    }

    /** Whether a condition is so for one of age 7. */
    private static void so(String condition, int due) {
        ByAlphabet x = new ByAlphabet();
        tell(x, "a").person(0, 7, 0);
        due("text of " + condition, tell(x, "may when " + condition + ";bar;").text(), 2);
        due(condition, with(x, 0, "b", 0), due);
    }

    private static void comparisonsAtTheEdge() {
        says("17", "C = E (< | = | >) E");
        so("age<6", 0);
        so("age<7", 0);
        so("age<8", 1);
        so("age=6", 0);
        so("age=7", 1);
        so("age=8", 0);
        so("age>6", 1);
        so("age>7", 0);
        so("age>8", 0);
        so("0-1<0", 1);
        so("0>0-1", 1);
    }

    private static void intsWrap() {
        says("17", "Ints, which wrap");
        // 9999 * 9999 * 22 is 2199560022, as an int -2095407274.
        so("9999*9999*22<0", 1);
        so("9999*9999*21>0", 1);
        so("9999*9999*22+2095*1000*1000+407*1000+274=0", 1);
        so("9999*9999*9999*9999=9999*9999*9999*9999", 1);
        // 2 to the 31st is the least int, to the 32nd 0; one less than the least is the greatest.
        so("4096*4096*128<0", 1);
        so("4096*4096*128-1>0", 1);
        so("4096*4096*256=0", 1);
        so("4096*4096*127+4096*4095+4095>0", 1);
        so("4096*4096*127+4096*4095+4096<0", 1);
        so("0-4096*4096*128<0", 1);
    }

    private static void partsGoTowardsZero() {
        says("17", "/ goes towards 0");
        so("7/2=3", 1);
        so("age/7=1", 1);
        so("age/8=0", 1);
        so("0/9999=0", 1);
        so("9999/9999=1", 1);
        so("9998/9999=0", 1);
        so("9999*9999*22/1000=0-2095*1000-407", 1);
        so("4096*4096*128/1=4096*4096*128", 1);
        so("4096*4096*128/4096/4096=0-128", 1);
        ByAlphabet x = alike(1, "a");
        for (int worth = -7; worth <= -1; worth++) {
            x.site(0, 0, worth, 0, 1);
            fact(x, "b", "worth/2", worth / 2);
            fact(x, "b", "worth/7", worth / 7);
            fact(x, "b", "worth/8", 0);
        }
    }

    private static void conditionsEightDeep() {
        says("17", "B = A {or A}. A = C {and C}. C = .. not C | ( B )");
        String open = "1=2 or 1=1 and (".repeat(8) + "1=2 or 1=1 and ";
        so(open + "1+2*3=1+2*3" + ")".repeat(8), 1);
        so(open + "1+2*3=1+3*3" + ")".repeat(8), 0);
        so("1=1 or 1=2 or 1=2", 1);
        so("1=2 or 1=1 or 1=2", 1);
        so("1=2 or 1=2 or 1=1", 1);
        so("1=2 or 1=2 or 1=2", 0);
        so("1=2 and 1=1 and 1=1", 0);
        so("1=1 and 1=2 and 1=1", 0);
        so("1=1 and 1=1 and 1=2", 0);
        so("1=1 and 1=1 and 1=1", 1);
        so("1=1 or 1=2 and 1=2", 1);
        so("1=2 and 1=2 or 1=1", 1);
        so("not age=7", 0);
        so("not age=8", 1);
        so("not ".repeat(8) + "age=7", 1);
        so("not ".repeat(7) + "age=7", 0);
        so("not (".repeat(4) + "age=7" + ")".repeat(4), 1);
        so("1=1 and not (1=2 or ".repeat(4) + "age=8" + ")".repeat(4), 0);
        so("1=2 or (".repeat(8) + "age=7" + ")".repeat(8) + " and 1=2", 0);
        so("1=1 or (".repeat(8) + "age=8" + ")".repeat(8) + " and 1=2", 1);
    }

    private static void feesAtFirst() {
        says("17", "FEES 0 .. 99 (1 each at first): CHANGE, TAKE, DROP of a letter");
        ByAlphabet x = alike(1, "abc");
        due("change", with(x, 0, "abd", 1), 1);
        due("take", with(x, 0, "abcd", 1), 1);
        due("drop", with(x, 0, "ac", 1), 1);
        due("none", with(x, 0, "abc", 1), 0);
        fees(x, 2, 30, 40);
        due("change", with(x, 0, "abd", 1), 2);
        due("take", with(x, 0, "abcd", 1), 30);
        due("drop", with(x, 0, "ac", 1), 40);
    }

    private static void feesOfNothing() {
        says("17", "the FEE of a NAME: from and to no letters, and FEES of 0");
        ByAlphabet x = fees(alike(1, ""), 7, 99, 98);
        due("none from none", with(x, 0, "", 1), 0);
        due("six taken", with(x, 0, "abcabc", 1), 594);
        tell(x, "abcabc").named(0);
        due("six dropped", with(x, 0, "", 1), 588);
        fees(x, 0, 0, 0);
        due("for nothing", with(x, 0, "", 1), 0);
        due("for nothing", with(x, 0, "zzzzzz", 1), 0);
        fees(x, 99, 0, 0);
        due("dropped and taken for nothing", with(x, 0, "zzzzzz", 1), 0);
        fees(x, 0, 99, 99);
        due("changed for nothing", with(x, 0, "zzzzzz", 1), 0);
        due("but one dropped", with(x, 0, "zzzzz", 1), 99);
    }

    private static void greatestFees() {
        says("17", "FEES 0 .. 99; the least by which the NAME of now becomes it");
        ByAlphabet x = fees(alike(1, "aaaaaa"), 99, 99, 99);
        due("six changed", with(x, 0, "bbbbbb", 1), 594);
        fees(x, 99, 50, 50);
        due("a change is cheaper by one", with(x, 0, "bbbbbb", 1), 594);
        fees(x, 99, 49, 50);
        due("as cheap", with(x, 0, "bbbbbb", 1), 594);
        fees(x, 99, 49, 49);
        due("a drop and a take are cheaper by one", with(x, 0, "bbbbbb", 1), 588);
    }

    private static void leastWay() {
        says("17", "the least by which the NAME of now becomes it, letter by letter");
        ByAlphabet x = alike(1, "abcdef");
        due("one dropped, one taken", with(x, 0, "bcdefa", 1), 2);
        due("turned round", with(x, 0, "fedcba", 1), 6);
        due("the first alone", with(x, 0, "a", 1), 5);
        due("the last alone", with(x, 0, "f", 1), 5);
        due("another one alone", with(x, 0, "z", 1), 6);
        fees(x, 3, 1, 1);
        due("turned round, one stays", with(x, 0, "fedcba", 1), 10);
        fees(x, 2, 1, 1);
        due("turned round", with(x, 0, "fedcba", 1), 10);
        fees(x, 5, 1, 9);
        due("dear to drop", with(x, 0, "bcdefa", 1), 10);
        fees(x, 1, 1, 9);
        due("dearer than changing all", with(x, 0, "bcdefa", 1), 6);
    }

    private static void gains() {
        says("17", "GAIN: YEARS (1 .. 99; 1 at first) times (WORTH with it less WORTH) less the FEE");
        ByAlphabet x = people(5, "b", "c");
        for (int s = 0; s < 6; s++) {
            x.site(s, s < 3 ? 0 : 1, s < 3 ? 99 : -99, 0, 1);
        }
        same("worths", worths(x), "297 -297");
        due("in a year", with(x, 1, "a", 2), 593);
        x.set(5, 99);
        due("in 99 years", with(x, 1, "a", 2), 58805);
        due("the same name", with(x, 1, "c", 2), 0);
        fees(x, 99, 99, 99);
        due("a loss in 99 years", with(x, 0, "dddddd", 2), -59400);
        due("nothing but the fee", with(x, 0, "a", 2), -99);
        due("the same name", with(x, 0, "b", 2), 0);
    }

    private static void worthWithName() {
        says("17", "WORTH with it, all others as they are");
        ByAlphabet x = new ByAlphabet();
        tell(x, "b").person(0, 5, 1);
        tell(x, "d").person(0, 5, 2);
        tell(x, "f").person(0, 6, 1);
        x.site(0, 0, 30, 10, 3);
        due("first", with(x, 2, "", 3), 30);
        due("last", with(x, 0, "zzzzzz", 3), 10);
        due("alike, a greater number", with(x, 2, "b", 3), 20);
        due("alike, a lesser number", with(x, 0, "d", 3), 30);
        x.set(1, 1);
        due("alike, a greater age", with(x, 2, "b", 3), 30);
        due("alike, of one age", with(x, 1, "b", 3), 20);
        x.set(1, 2);
        due("alike, of as much coin", with(x, 2, "b", 3), 20);
        due("alike, of less coin", with(x, 0, "d", 3), 20);
        due("alike, of more coin", with(x, 1, "b", 3), 30);
        x.set(0, 2);
        due("left out", with(x, 0, "xyz", 3), 30);
        ByAlphabet one = alike(1, "a");
        one.site(0, 1, 8, 0, 1);
        due("the only one", with(one, 0, "z", 3), 8);
    }

    private static void refusedWith() {
        says("17", "NONE - 999999 if one can't be, or another what");
        ByAlphabet x = full();
        String before = pictureOf(x);
        for (int p : NO_PERSON) {
            for (int what = 0; what < 4; what++) {
                due("with " + p, with(x, p, "a", what), NO_SUCH);
                tapeIsEmpty("with " + p, x);
            }
        }
        for (int what : new int[] {-1, 4, 5, LEAST, MOST}) {
            due("what " + what, with(x, 0, "a", what), NO_SUCH);
            tapeIsEmpty("what " + what, x);
        }
        for (String name : new String[] {"aaaaaaa", "A", "a ", "1", "\u00ff"}) {
            for (int what = 0; what < 4; what++) {
                due("name " + name, with(x, 0, name, what), NO_SUCH);
                tapeIsEmpty("name " + name, x);
            }
        }
        for (int what = 0; what < 4; what++) {
            due("it can be", with(x, 0, "aaaaaa", what) != NO_SUCH ? 1 : 0, 1);
            tapeIsEmpty("with", x);
        }
        nothingIsDone("with", x, before);
    }

    private static void tenNames() {
        says("18", "up to 10 NAMES as they come; NONE .. if there are ten");
        ByAlphabet x = alike(1, "");
        fees(x, 0, 0, 0);
        String[] names = {"", "a", "zzzzzz", "a", "", "b", "cc", "d", "e", "f"};
        for (int i = 0; i < 10; i++) {
            due("name " + i, tell(x, names[i]).sell(), i);
            tapeIsEmpty("sell", x);
            due("so many", x.look(2), i + 1);
        }
        for (int time = 0; time < 2; time++) {
            due("the eleventh", tell(x, "g").sell(), -1);
            tapeIsEmpty("the eleventh", x);
            due("ten", x.look(2), 10);
        }
        for (int i = 0; i < 10; i++) {
            due("taken", x.take(0, i), 0);
            same("as they came", nameOf(x, 0), names[i]);
        }
        due("none behind", x.take(0, 10), -1);
    }

    private static void refusedSell() {
        says("18", "NONE if one can't be");
        ByAlphabet x = full();
        String before = pictureOf(x);
        for (String name : new String[] {"aaaaaaa", "a".repeat(400), "A", "a ", "`", "{", "1", "\u00e1"}) {
            due("name " + name, tell(x, name).sell(), -1);
            tapeIsEmpty("no name", x);
        }
        nothingIsDone("no name", x, before);
        due("the next number", tell(x, "aaaaaa").sell(), 2);
    }

    private static void coinForTheFee() {
        says("19", "has COIN for the FEE (paid)");
        ByAlphabet x = new ByAlphabet();
        tell(x, "aaa").person(0, 0, 29);
        tell(x, "aaa").person(0, 0, 30);
        tell(x, "aaa").person(0, 0, 31);
        tell(x, "bbb").person(0, 0, 0);
        sells(fees(x, 10, 99, 99), "bbb");
        due("one too few", x.take(0, 0), -1);
        same("as it was", nameOf(x, 0), "aaa");
        due("as it was", x.of(0, 2), 29);
        due("just so much", x.take(1, 0), 30);
        same("taken", nameOf(x, 1), "bbb");
        due("paid", x.of(1, 2), 0);
        due("one more", x.take(2, 0), 30);
        due("paid", x.of(2, 2), 1);
        due("nothing for nothing", x.take(3, 0), 0);
        due("paid", x.of(3, 2), 0);
    }

    private static void coinBelowZero() {
        says("19", "has COIN for the FEE");
        ByAlphabet x = sells(alike(1, "a"), "b");
        x.site(0, 0, -1, 0, 1);
        x.years(1);
        due("below 0", x.of(0, 2), -1);
        due("no coin", x.take(0, 0), -1);
        fees(x, 0, 0, 0);
        due("not for a fee of 0", x.take(0, 0), -1);
        x.site(0, 0, 1, 0, 1);
        x.years(1);
        due("0 is enough", x.take(0, 0), 0);
    }

    private static void takenByOneWhoMay() {
        says("19", "TAKEN is a NAME of THE MARKET by one who MAY");
        ByAlphabet x = new ByAlphabet();
        tell(x, "ab").person(0, 0, 100);
        sells(x, "aba", "c");
        tell(x, "may when like=2;bar;").text();
        due("may not", x.take(0, 1), -1);
        due("may", x.take(0, 0), 1);
        due("paid", x.of(0, 2), 99);
        due("may not now", x.take(0, 0), -1);
        same("named", nameOf(x, 0), "aba");
        x.text();
        due("may again", x.take(0, 0), 0);
        due("and the other", x.take(0, 1), 3);
        due("paid", x.of(0, 2), 96);
        tell(x, "may when coin>96;bar;").text();
        due("too little coin by the text", x.take(0, 1), -1);
        tell(x, "zz");
        due("may not", x.take(0, 1), -1);
        yes("the tape stays", x.named(0));
        same("as it was", nameOf(x, 0), "zz");
    }

    private static void refusedTake() {
        says("19", "NONE if one can't, or may not");
        ByAlphabet x = full();
        String before = pictureOf(x);
        for (int p : NO_PERSON) {
            due("take of " + p, x.take(p, 0), -1);
        }
        for (int i : new int[] {-1, 2, 3, 9, 10, LEAST, MOST}) {
            due("name " + i, x.take(0, i), -1);
        }
        nothingIsDone("take", x, before);
        due("no market", alike(1, "a").take(0, 0), -1);
    }

    private static void rests(String what, ByAlphabet x, int rounds, int circle, int taken) {
        due(what + ": rounds", x.rest(0), rounds);
        due(what + ": circle", x.rest(1), circle);
        due(what + ": taken", x.rest(2), taken);
    }

    private static void nothingToRestOn() {
        says("20", "0 ROUNDS ahead of the one without, 1 how long a CIRCLE is (0), 2 how often a NAME was taken");
        rests("nobody, no market", new ByAlphabet(), 0, 0, 0);
        rests("nobody", sells(new ByAlphabet(), "a"), 0, 0, 0);
        rests("no market", alike(3, "a"), 0, 0, 0);
        ByAlphabet x = sells(people(5, "b", "c"), "a");
        rests("nothing to gain", x, 0, 0, 0);
        x.site(0, 0, 9, 0, 1);
        // c takes a; then b takes it too and is ahead by number.
        rests("something to gain", x, 2, 0, 2);
    }

    private static void gainAboveZero() {
        says("20", "the greatest GAIN, if that is above 0");
        ByAlphabet x = sells(people(5, "c", "b"), "a");
        x.site(0, 0, 1, 0, 1);
        rests("a gain of 0", x, 0, 0, 0);
        fees(x, 0, 1, 1);
        rests("a gain of 1", x, 1, 0, 1);
        fees(x, 2, 1, 1);
        rests("a loss", x, 0, 0, 0);
        x.set(5, 3);
        rests("a gain of 1 in 3 years", x, 1, 0, 1);
        // b for 9, aaa for 7: d takes b; c takes b and is ahead by number; d takes aaa; c takes aaa.
        ByAlphabet y = sells(people(5, "c", "d"), "aaa", "b");
        y.site(0, 0, 10, 0, 1);
        rests("the greatest", y, 3, 0, 4);
    }

    private static void ofSeveralTheFirst() {
        says("20", "of several the first");
        ByAlphabet x = sells(people(5, "c", "d"), "a", "b");
        x.site(0, 0, 10, 0, 1);
        // d takes a; c takes a, and is ahead by number.
        rests("a, then b", x, 2, 0, 2);
        ByAlphabet y = sells(people(5, "c", "d"), "b", "a");
        y.site(0, 0, 10, 0, 1);
        // d takes b; c takes b and d a; c takes a.
        rests("b, then a", y, 3, 0, 4);
    }

    private static void namesThatOneMayHave() {
        says("20", "of all NAMES of THE MARKET that one MAY have");
        ByAlphabet x = sells(people(5, "c", "d"), "a", "b");
        x.site(0, 0, 10, 0, 1);
        tell(x, "bar when first=0;").text();
        rests("b alone", x, 2, 0, 2);
        tell(x, "bar;").text();
        rests("none", x, 0, 0, 0);
        // d takes a, and c, worth nothing then, takes it too.
        tell(x, "bar when worth>0;bar when first=1;").text();
        rests("by the worth in thought", x, 2, 0, 2);
        tell(x, "bar when coin<1;").text();
        rests("by coin", x, 0, 0, 0);
        // The last gets 10: b takes d; c takes e, d e; both take ee, which is like e, though not like c or b.
        ByAlphabet y = sells(people(5, "c", "b"), "d", "e", "ee");
        y.site(0, 1, 10, 0, 1);
        tell(y, "may when letters=1;may when like>0;bar;").text();
        rests("by the name in thought", y, 3, 0, 5);
    }

    private static void nothingStays() {
        says("20", "in thought (nothing stays; COIN is not paid)");
        ByAlphabet x = full();
        x.text();
        fees(x, 0, 1, 1);
        String before = pictureOf(x);
        due("somebody takes", x.rest(2) > 0 ? 1 : 0, 1);
        nothingIsDone("rest", x, before);
        ByAlphabet y = sells(people(5, "c", "d"), "a", "b");
        fees(y, 9, 9, 9);
        y.site(0, 0, 10, 0, 1);
        rests("without coin", y, 2, 0, 2);
        tell(y, "bar when coin<0;").text();
        rests("nor is any paid", y, 2, 0, 2);
        tell(y, "ee");
        y.rest(0);
        yes("the tape stays", y.named(0));
        same("as it was", nameOf(y, 0), "ee");
    }

    /** Names of PEOPLE and of THE MARKET told with blanks between; each site as side, first, less, many. */
    private static ByAlphabet restless(String people, String market, int[][] sites, int... fees) {
        ByAlphabet x = sells(people(5, people.split(" ")), market.split(" "));
        for (int s = 0; s < sites.length; s++) {
            x.site(s, sites[s][0], sites[s][1], sites[s][2], sites[s][3]);
        }
        return fees(x, fees[0], fees[1], fees[2]);
    }

    private static void restByForty() {
        says("20", "40 ROUNDS at most are gone through (the one without, too), else neither");
        rests("the 40th is the one without", restless("e bb e cdb e cd", "cbb ce bb d cdb e ac a cd",
                new int[][] {{1, -17, 0, 1}, {0, -14, 1, 6}}, 1, 1, 1), 39, 0, 58);
        rests("the 41st would be the one without", restless("cc be b b d bcd", "a bcd cc ac b aa be ab d",
                new int[][] {{1, 7, 2, 2}, {1, -16, 5, 1}}, 1, 2, 0), -1, 0, 84);
    }

    private static void circleByForty() {
        says("20", "till all NAMES are as ahead of an earlier one: a CIRCLE of so many ROUNDS; 40 ROUNDS at most");
        rests("a circle that closes with the 40th", restless("d e ee ca aae", "aae d c e ee a",
                new int[][] {{1, -18, 6, 3}, {1, 17, 1, 2}}, 1, 1, 0), -1, 14, 89);
        rests("a circle that would close with the 41st", restless("c b deb ad dad", "aad da ddc d ec ad cc",
                new int[][] {{0, -17, 3, 3}, {1, -18, 4, 3}}, 0, 1, 2), -1, 0, 114);
    }

    private static ByAlphabet inCircles() {
        ByAlphabet x = sells(alike(4, "ce"), "ce", "ba");
        x.site(0, 1, 12, 0, 2);
        x.site(1, 1, -9, 2, 3);
        return fees(x, 0, 0, 0);
    }

    private static void circleFromTheStart() {
        says("20", "till all NAMES are as ahead of an earlier one");
        rests("as ahead of the first", inCircles(), -1, 3, 6);
        ByAlphabet x = inCircles();
        for (int p = 0; p < 4; p++) {
            tell(x, "ba").named(p);
        }
        rests("as ahead of the second", x, -1, 3, 10);
        // Sixteen more, ahead of the others, who may take nothing.
        ByAlphabet y = inCircles();
        for (int p = 4; p < 20; p++) {
            y.person(0, 1, 0);
        }
        tell(y, "bar when age>0;").text();
        rests("of twenty", y, -1, 3, 6);
    }

    private static void eachByItself() {
        says("20", "AT REST, in thought (nothing stays)");
        ByAlphabet x = inCircles();
        rests("a circle", x, -1, 3, 6);
        tell(x, "bar;").text();
        rests("nobody may", x, 0, 0, 0);
        x.text();
        rests("a circle again", x, -1, 3, 6);
        ByAlphabet y = restless("cc be b b d bcd", "a bcd cc ac b aa be ab d", new int[][] {{1, 7, 2, 2}, {1, -16, 5, 1}}, 1, 2, 0);
        rests("neither", y, -1, 0, 84);
        y.set(2, 99);
        y.set(3, 99);
        y.set(4, 99);
        rests("nothing to gain", y, 0, 0, 0);
        fees(y, 1, 2, 0);
        rests("neither again", y, -1, 0, 84);
    }

    private static void refusedRest() {
        says("20", "NONE for another what");
        ByAlphabet x = full();
        for (int what : new int[] {-1, 3, 4, LEAST, MOST}) {
            due("what " + what, x.rest(what), -1);
            due("of nobody", new ByAlphabet().rest(what), -1);
        }
    }
}

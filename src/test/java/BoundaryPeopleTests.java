/** The edges of promises 8 to 16 and 21, sentence by sentence: PEOPLE, laws, SITES, CHANCES, WORTH, WEDDINGS. */
public final class BoundaryPeopleTests extends Told {
    private static final int[] NO_PERSON = {-1, 3, 4, 19, 20, 21, -2, LEAST, MOST};

    private BoundaryPeopleTests() {
    }

    public static void main(String[] args) {
        lengthsOfNames();
        signsOfNames();
        sexAgeAndCoin();
        refusedPeople();
        twentyPeople();
        namedWhetherOneMayOrNot();
        refusedNaming();
        ordersOfLetters();
        refusedAlphabet();
        settings();
        refusedSettings();
        partsOfSites();
        refusedSites();
        chances();
        refusedChances();
        lettersOfNames();
        refusedOf();
        placesInList();
        beginningsAreAhead();
        lettersFromAbroadBehind();
        lettersFromAbroadAhead();
        lettersFromAbroadLeftOut();
        ties();
        tiesByCoinAnywhere();
        queueBelowMany();
        queueFromBack();
        firstAboveZero();
        firstBelowZero();
        firstZero();
        allSites();
        worthByChances();
        refusedWorth();
        expectedOfNothing();
        expectedSumOfZero();
        expectedWithoutCommonPart();
        refusedExpected();
        nobodyToWed();
        fewerToWed();
        alikeToWed();
        pricesBelowZero();
        tenCouples();
        refusedWed();
        finish();
    }

    private static void lengthsOfNames() {
        says("8", "A NAME is a row of 0 .. 6 small letters");
        ByAlphabet x = new ByAlphabet();
        for (int n = 0; n <= 6; n++) {
            String name = "zyxwvu".substring(0, n);
            due(n + " letters", tell(x, name).person(0, 0, 0), n);
            due("so many", x.of(n, 3), n);
            same("these", nameOf(x, n), name);
        }
        for (int n : new int[] {7, 8, 19, 20, 21, 400}) {
            due(n + " letters", tell(x, "a".repeat(n)).person(0, 0, 0), -1);
            tapeIsEmpty("a name that is none", x);
        }
        due("seven came", x.look(1), 7);
    }

    private static void signsOfNames() {
        says("8", "small letters");
        ByAlphabet x = new ByAlphabet();
        due("a and z", tell(x, "azaz").person(0, 0, 0), 0);
        for (char sign : new char[] {'`', '{', 'A', 'Z', '@', '[', ' ', '\n', '0', 0, 127, 128, 225, 250, 255}) {
            for (int place = 0; place < 6; place++) {
                String name = "a".repeat(place) + sign + "a".repeat(5 - place);
                due("sign " + (int) sign + " at " + place, tell(x, name).person(0, 0, 0), -1);
            }
        }
        due("one came", x.look(1), 1);
    }

    private static void sexAgeAndCoin() {
        says("8", "a SEX 0, 1, an AGE 0 .. 99, COIN 0 .. 9999");
        ByAlphabet x = new ByAlphabet();
        int[][] can = {{0, 0, 0}, {1, 0, 0}, {0, 99, 0}, {0, 0, 9999}, {1, 99, 9999}, {1, 1, 1}, {0, 98, 9998}};
        for (int p = 0; p < can.length; p++) {
            due("person", x.person(can[p][0], can[p][1], can[p][2]), p);
            for (int what = 0; what < 3; what++) {
                due("as told", x.of(p, what), can[p][what]);
            }
        }
    }

    private static void refusedPeople() {
        says("8", "NONE if one can't be (no NAME)");
        ByAlphabet x = full();
        String before = pictureOf(x);
        int[][] wrong = {{-1, 0, 0}, {2, 0, 0}, {LEAST, 0, 0}, {MOST, 0, 0}, {0, -1, 0}, {0, 100, 0}, {0, LEAST, 0}, {0, MOST, 0},
            {0, 0, -1}, {0, 0, 10000}, {0, 0, LEAST}, {0, 0, MOST}, {2, 100, 10000}};
        for (int[] one : wrong) {
            String call = "person " + one[0] + ", " + one[1] + ", " + one[2];
            due(call, tell(x, "ab").person(one[0], one[1], one[2]), -1);
            tapeIsEmpty(call, x);
            nothingIsDone(call, x, before);
        }
        due("no name", tell(x, "aB").person(0, 0, 0), -1);
        nothingIsDone("no name", x, before);
        due("the next has the next number", tell(x, "b").person(0, 0, 0), 3);
    }

    private static void twentyPeople() {
        says("8", "NONE .. if there are twenty");
        ByAlphabet x = alike(19, "a");
        due("the twentieth", tell(x, "b").person(1, 7, 8), 19);
        String before = pictureOf(x);
        due("the 21st", tell(x, "c").person(0, 0, 0), -1);
        tapeIsEmpty("the 21st", x);
        nothingIsDone("the 21st", x, before);
        due("the twentieth is there", x.of(19, 2), 8);
        due("nobody behind", x.of(20, 0), NO_SUCH);
        yes("may be named", tell(x, "dd").named(19));
        no("nobody behind", tell(x, "dd").named(20));
    }

    private static void namedWhetherOneMayOrNot() {
        says("9", "One has the TAPE (empty then) as NAME, whether one MAY or not: true");
        ByAlphabet x = full();
        tell(x, "bar;").text();
        for (String name : new String[] {"zzzzzz", "", "a"}) {
            for (int p = 0; p < 3; p++) {
                yes("named " + name, tell(x, name).named(p));
                tapeIsEmpty("named", x);
                same("so", nameOf(x, p), name);
            }
        }
    }

    private static void refusedNaming() {
        says("9", "false if one can't be");
        ByAlphabet x = full();
        String before = pictureOf(x);
        for (int p : NO_PERSON) {
            no("named " + p, tell(x, "cc").named(p));
            tapeIsEmpty("named " + p, x);
        }
        for (String name : new String[] {"aaaaaaa", "A", "a ", " a", "a1", "\u00e4"}) {
            no("named " + name, tell(x, name).named(2));
            tapeIsEmpty("named " + name, x);
        }
        nothingIsDone("what can't be", x, before);
        no("nobody at all", new ByAlphabet().named(0));
    }

    private static void ordersOfLetters() {
        says("10", "An ORDER is a row of the K LETTERS, each once");
        for (int k = 2; k <= 8; k++) {
            ByAlphabet x = made(k);
            String plain = "abcdefgh".substring(0, k);
            String turned = new StringBuilder(plain).reverse().toString();
            yes(turned, tell(x, turned).alphabet());
            tapeIsEmpty("alphabet", x);
            same("so", alphabetOf(x), turned);
            no("one fewer", tell(x, plain.substring(1)).alphabet());
            no("one more", tell(x, plain + "a").alphabet());
            no("one from abroad more", tell(x, "abcdefghi".substring(0, k + 1)).alphabet());
            no("one from abroad", tell(x, plain.substring(0, k - 1) + "abcdefghi".charAt(k)).alphabet());
            no("one twice", tell(x, plain.substring(0, k - 1) + "a").alphabet());
            no("a sign ahead of a", tell(x, plain.substring(0, k - 1) + "`").alphabet());
            no("a capital", tell(x, "A" + plain.substring(1)).alphabet());
            no("a blank", tell(x, " " + plain.substring(1)).alphabet());
            no("byte 255", tell(x, "\u00ff" + plain.substring(1)).alphabet());
            no("nothing", x.alphabet());
            same("as it was", alphabetOf(x), turned);
        }
    }

    private static void refusedAlphabet() {
        says("10", "false if it is no ORDER");
        ByAlphabet x = full();
        String before = pictureOf(x);
        for (String order : new String[] {"", "ab", "abca", "aab", "abd", "ABC", "abc ", "a".repeat(400)}) {
            no("'" + order + "'", tell(x, order).alphabet());
            tapeIsEmpty("no order", x);
            nothingIsDone("no order", x, before);
        }
    }

    private static void settings() {
        says("11", "0 LAW OF ABROAD (0 .. 2), 1 LAW OF TIES (0 .. 2), 2, 3, 4 FEES (0 .. 99), 5 YEARS (1 .. 99), 6 (0 .. 2)");
        int[] least = {0, 0, 0, 0, 0, 1, 0};
        int[] greatest = {2, 2, 99, 99, 99, 99, 2};
        ByAlphabet x = new ByAlphabet();
        for (int what = 0; what < 7; what++) {
            for (int v : new int[] {least[what], least[what] + 1, greatest[what] - 1, greatest[what]}) {
                yes("set " + what + " to " + v, x.set(what, v));
                due("told", x.look(20 + what), v);
            }
        }
        for (int what = 0; what < 7; what++) {
            due("each its own", x.look(20 + what), greatest[what]);
        }
    }

    private static void refusedSettings() {
        says("11", "false if one can't be, or another what");
        int[] greatest = {2, 2, 99, 99, 99, 99, 2};
        ByAlphabet x = full();
        String before = pictureOf(x);
        for (int what = 0; what < 7; what++) {
            for (int v : new int[] {what == 5 ? 0 : -1, greatest[what] + 1, -2, 100, LEAST, MOST}) {
                no("set " + what + " to " + v, x.set(what, v));
                nothingIsDone("set " + what + " to " + v, x, before);
            }
        }
        for (int what : new int[] {-1, 7, 8, 20, -2, LEAST, MOST}) {
            for (int v = 0; v < 3; v++) {
                no("set " + what, x.set(what, v));
            }
        }
        nothingIsDone("another what", x, before);
    }

    private static void partsOfSites() {
        says("12", "SITES 0 .. 5: a SIDE 0, 1, FIRST -99 .. 99, LESS 0 .. 99, MANY 0 .. 20");
        int[][] can = {{0, 0, 0, 0, 0}, {5, 0, 0, 0, 0}, {0, 1, 0, 0, 0}, {0, 0, -99, 0, 0}, {0, 0, 99, 0, 0}, {0, 0, 0, 99, 0},
            {0, 0, 0, 0, 20}, {5, 1, 99, 99, 20}, {5, 1, -99, 99, 20}};
        for (int[] s : can) {
            yes("site " + s[0] + " " + s[1] + " " + s[2] + " " + s[3] + " " + s[4], new ByAlphabet().site(s[0], s[1], s[2], s[3], s[4]));
        }
        says("12", "SITES .. (all 0 at first)");
        ByAlphabet x = alike(2, "a");
        same("nothing", worths(x), "0 0");
        for (int s = 0; s < 6; s++) {
            yes("site " + s, x.site(s, 0, 1 + s, 0, 1));
            due("one more", x.worth(0, -1), (s + 1) * (s + 2) / 2);
        }
        for (int s = 0; s < 6; s++) {
            yes("told anew", x.site(s, 1, 2, 0, 1));
        }
        same("all of it", worths(x), "0 12");
    }

    private static void refusedSites() {
        says("12", "false if one can't be");
        ByAlphabet x = full();
        String before = pictureOf(x);
        int[][] wrong = {{-1, 0, 9, 1, 3}, {6, 0, 9, 1, 3}, {0, -1, 9, 1, 3}, {0, 2, 9, 1, 3}, {0, 0, -100, 1, 3}, {0, 0, 100, 1, 3},
            {0, 0, 9, -1, 3}, {0, 0, 9, 100, 3}, {0, 0, 9, 1, -1}, {0, 0, 9, 1, 21}};
        for (int[] s : wrong) {
            no("site", x.site(s[0], s[1], s[2], s[3], s[4]));
        }
        for (int v : new int[] {LEAST, MOST}) {
            no("site " + v, x.site(v, 0, 9, 1, 3));
            no("side " + v, x.site(0, v, 9, 1, 3));
            no("first " + v, x.site(0, 0, v, 1, 3));
            no("less " + v, x.site(0, 0, 9, v, 3));
            no("many " + v, x.site(0, 0, 9, 1, v));
        }
        nothingIsDone("site", x, before);
    }

    private static void chances() {
        says("13", "CHANCES 0 .. 5: an ORDER and a WEIGHT 0 .. 99 (none, 0 at first)");
        ByAlphabet x = people(2, "a", "b");
        x.site(0, 0, 4, 0, 1);
        for (int i = 0; i < 6; i++) {
            due("none at first", x.worth(0, i), NO_SUCH);
            yes("chance " + i, tell(x, "ba").chance(i, i == 0 ? 0 : 99));
            tapeIsEmpty("chance", x);
            due("told", x.worth(1, i), 4);
        }
        yes("anew", tell(x, "ab").chance(5, 0));
        due("told anew", x.worth(1, 5), 0);
        yes("anew", tell(x, "ab").chance(0, 99));
        due("99 of 495 above", x.expected(0, 0), 4);
        due("99 of 495 below", x.expected(0, 1), 5);
    }

    private static void refusedChances() {
        says("13", "false if one can't be");
        ByAlphabet x = full();
        String before = pictureOf(x);
        for (int i : new int[] {-1, 6, -2, 7, LEAST, MOST}) {
            no("chance " + i, tell(x, "abc").chance(i, 1));
            tapeIsEmpty("chance " + i, x);
        }
        for (int weight : new int[] {-1, 100, LEAST, MOST}) {
            no("weight " + weight, tell(x, "abc").chance(0, weight));
            no("weight " + weight, tell(x, "abc").chance(1, weight));
            tapeIsEmpty("weight " + weight, x);
        }
        for (String order : new String[] {"", "ab", "abcd", "aab", "abd"}) {
            no("order " + order, tell(x, order).chance(0, 5));
            no("order " + order, tell(x, order).chance(1, 5));
            tapeIsEmpty("order " + order, x);
        }
        nothingIsDone("chance", x, before);
    }

    private static void lettersOfNames() {
        says("14", "10 + k letter k of the NAME (a 0 .. z 25)");
        ByAlphabet x = people(2, "", "z", "abyzaz");
        due("a", x.of(2, 10), 0);
        due("z", x.of(2, 15), 25);
        due("of one letter", x.of(1, 10), 25);
        says("14", "NONE - 999999 if there is none such");
        due("no letter 0", x.of(0, 10), NO_SUCH);
        due("no letter 1", x.of(1, 11), NO_SUCH);
        due("no letter 6", x.of(2, 16), NO_SUCH);
        due("no letter 7", x.of(2, 17), NO_SUCH);
        ByAlphabet y = people(2, "zzzzzz");
        due("no letter 6", y.of(0, 16), NO_SUCH);
        due("no letter -1", y.of(0, 9), NO_SUCH);
    }

    private static void refusedOf() {
        says("14", "NONE - 999999 if there is none such, or another what");
        ByAlphabet x = full();
        for (int p : NO_PERSON) {
            for (int what : new int[] {0, 1, 2, 3, 4, 10}) {
                due("of " + p + ", " + what, x.of(p, what), NO_SUCH);
            }
        }
        for (int what : new int[] {-1, 5, 6, 9, 16, 20, 42, LEAST, LEAST + 10, MOST, MOST - 10}) {
            due("what " + what, x.of(0, what), NO_SUCH);
        }
    }

    private static void placesInList() {
        says("14", "4 the place in the list by THE ALPHABET");
        ByAlphabet x = new ByAlphabet();
        for (int p = 0; p < 20; p++) {
            tell(x, String.valueOf((char) ('t' - p))).person(0, 0, 0);
        }
        for (int p = 0; p < 20; p++) {
            due("place", x.of(p, 4), 19 - p);
        }
        due("the only one", alike(1, "").of(0, 4), 0);
    }

    private static void beginningsAreAhead() {
        says("14", "one that is the beginning of the other is ahead");
        for (int law = 0; law < 3; law++) {
            ByAlphabet x = people(2, "aaaaaa", "aaaaa", "aaaa", "aaa", "aa", "a", "");
            x.set(0, law);
            same("by law " + law, listOf(x), "6543210");
        }
        ByAlphabet y = people(3, "cc", "c", "b", "ba", "a", "ac", "cb");
        same("by abc", listOf(y), "4523160");
        tell(y, "cba").alphabet();
        same("by cba", listOf(y), "1062345");
    }

    private static void lettersFromAbroadBehind() {
        says("14", "0 is behind all LETTERS (among themselves as in a .. z)");
        ByAlphabet x = people(2, "z", "c", "b", "a", "bz", "bc", "ba", "zb", "za", "zc", "");
        same("by ab", listOf(x), ":3265410879");
        tell(x, "ba").alphabet();
        same("by ba", listOf(x), ":2654310789");
        for (int k = 2; k <= 8; k++) {
            String last = "abcdefgh".substring(k - 1, k);
            String abroad = "abcdefghi".substring(k, k + 1);
            same("the first from abroad behind the last letter", listOf(people(k, abroad, last)), "10");
        }
        ByAlphabet y = people(8, "z", "i", "h", "a", "hz", "hi", "hh", "ha", "");
        same("by abcdefgh", listOf(y), "832765410");
        tell(y, "hgfedcba").alphabet();
        same("by hgfedcba", listOf(y), "826754310");
    }

    private static void lettersFromAbroadAhead() {
        says("14", "1 ahead of all (among themselves as in a .. z)");
        ByAlphabet x = people(2, "z", "c", "b", "a", "az", "ac", "aa", "");
        x.set(0, 1);
        same("by ab", listOf(x), "71035462");
        tell(x, "ba").alphabet();
        same("by ba", listOf(x), "71023546");
        for (int k = 2; k <= 8; k++) {
            ByAlphabet z = people(k, "a", "z");
            z.set(0, 1);
            same("the last from abroad ahead of the first letter", listOf(z), "10");
        }
        ByAlphabet y = people(8, "z", "i", "h", "a", "hz", "hi", "hh", "ha", "");
        y.set(0, 1);
        same("by abcdefgh", listOf(y), "810325476");
        tell(y, "hgfedcba").alphabet();
        same("by hgfedcba", listOf(y), "810254673");
    }

    private static void lettersFromAbroadLeftOut() {
        says("14", "2 is left out; are both alike so, by the LAW OF TIES");
        ByAlphabet x = people(2, "xayb", "zzzzzz", "ab", "", "aczz", "a", "cab", "zb");
        x.set(0, 2);
        same("by number", listOf(x), "13450267");
        tell(x, "ba").alphabet();
        same("by number, by ba", listOf(x), "13745026");
        ByAlphabet y = made(2);
        tell(y, "zz").person(0, 3, 0);
        tell(y, "").person(0, 5, 0);
        tell(y, "cc").person(0, 4, 9);
        y.set(0, 2);
        y.set(1, 1);
        same("by age", listOf(y), "120");
        y.set(1, 2);
        same("by coin", listOf(y), "201");
    }

    private static void ties() {
        says("14", "0 the lesser number, 1 the greater AGE, 2 the greater COIN is ahead; then the lesser number");
        ByAlphabet x = new ByAlphabet();
        int[][] all = {{0, 9999}, {99, 0}, {99, 0}, {0, 9999}, {98, 9998}, {1, 1}};
        for (int[] one : all) {
            tell(x, "b").person(0, one[0], one[1]);
        }
        tell(x, "a").person(0, 0, 0);
        tell(x, "bb").person(0, 99, 9999);
        same("by number", listOf(x), "60123457");
        x.set(1, 1);
        same("by age", listOf(x), "61245037");
        x.set(1, 2);
        same("by coin", listOf(x), "60345127");
    }

    private static void tiesByCoinAnywhere() {
        says("14", "COIN may go anywhere later");
        ByAlphabet x = alike(3, "a");
        x.set(1, 1);
        tell(x, "").named(2);
        x.site(0, 0, 99, 0, 1);
        x.site(1, 0, 99, 0, 1);
        x.site(2, 1, -99, 0, 1);
        due("sixty years", x.years(60), 60);
        due("above 9999", x.of(2, 2), 60 * 198);
        due("0", x.of(0, 2), 0);
        due("below 0", x.of(1, 2), -60 * 99);
        x.set(1, 2);
        tell(x, "a").named(2);
        same("the greater coin", listOf(x), "201");
    }

    private static void queueBelowMany() {
        says("15", "The i-th of it (from 0 on, below MANY) gets");
        ByAlphabet x = alike(20, "a");
        for (int many : new int[] {0, 1, 19, 20}) {
            x.site(0, 0, 7, 0, many);
            for (int p = 0; p < 20; p++) {
                due(p + " of " + many, x.worth(p, -1), p < many ? 7 : 0);
            }
        }
        ByAlphabet y = alike(2, "a");
        y.site(0, 0, 7, 1, 20);
        same("more than there are", worths(y), "7 6");
    }

    private static void queueFromBack() {
        says("15", "from the back the other way round");
        ByAlphabet x = alike(20, "a");
        for (int many : new int[] {0, 1, 19, 20}) {
            x.site(0, 1, 7, 0, many);
            for (int p = 0; p < 20; p++) {
                due(p + " of " + many, x.worth(p, -1), 19 - p < many ? 7 : 0);
            }
        }
        ByAlphabet y = alike(3, "a");
        y.site(0, 1, 7, 2, 20);
        same("more than there are", worths(y), "3 5 7");
        ByAlphabet one = alike(1, "a");
        one.site(0, 1, 7, 2, 1);
        same("the only one", worths(one), "7");
    }

    private static void site(String due, int first, int less) {
        ByAlphabet x = alike(4, "a");
        x.site(3, 0, first, less, 20);
        same(first + " less " + less, worths(x), due);
    }

    private static void firstAboveZero() {
        says("15", "gets FIRST less i times LESS, if FIRST is above 0, not below 0");
        site("10 5 0 0", 10, 5);
        site("10 4 0 0", 10, 6);
        site("15 10 5 0", 15, 5);
        site("1 1 1 1", 1, 0);
        site("1 0 0 0", 1, 1);
        site("99 0 0 0", 99, 99);
        site("99 1 0 0", 99, 98);
        site("99 99 99 99", 99, 0);
        ByAlphabet x = alike(20, "a");
        x.site(0, 0, 99, 5, 20);
        due("the last", x.worth(19, -1), 4);
        x.site(0, 0, 19, 1, 20);
        due("the last", x.worth(19, -1), 0);
        due("the last but one", x.worth(18, -1), 1);
    }

    private static void firstBelowZero() {
        says("15", "if FIRST is below 0, FIRST and i times LESS more, not above 0");
        site("-10 -5 0 0", -10, 5);
        site("-10 -4 0 0", -10, 6);
        site("-15 -10 -5 0", -15, 5);
        site("-1 -1 -1 -1", -1, 0);
        site("-1 0 0 0", -1, 1);
        site("-99 0 0 0", -99, 99);
        site("-99 -1 0 0", -99, 98);
        site("-99 -99 -99 -99", -99, 0);
    }

    private static void firstZero() {
        says("15", "if FIRST is above 0; if FIRST is below 0");
        site("0 0 0 0", 0, 0);
        site("0 0 0 0", 0, 1);
        site("0 0 0 0", 0, 99);
        ByAlphabet x = alike(3, "a");
        x.site(0, 1, 0, 99, 20);
        same("from the back", worths(x), "0 0 0");
    }

    private static void allSites() {
        says("15", "WORTH of one by an ORDER: what one gets at all SITES");
        ByAlphabet x = alike(2, "a");
        for (int s = 0; s < 6; s++) {
            x.site(s, 0, 99, 0, 1);
        }
        same("six times 99", worths(x), "594 0");
        for (int s = 0; s < 6; s++) {
            x.site(s, 1, -99, 0, 1);
        }
        same("six times -99", worths(x), "0 -594");
        x.site(5, 1, 99, 0, 2);
        same("each by itself not below 0", worths(x), "99 -396");
        x.site(0, 0, 5, 9, 2);
        x.site(1, 0, -5, 9, 2);
        same("added behind that", worths(x), "99 -198");
    }

    private static void worthByChances() {
        says("15", "by THE ALPHABET (ORDER NONE) or that of CHANCE i (told)");
        ByAlphabet x = people(2, "a", "b");
        x.site(0, 0, 6, 0, 1);
        due("none is told", x.worth(0, 0), NO_SUCH);
        due("none is told", x.worth(0, 5), NO_SUCH);
        tell(x, "ba").chance(0, 0);
        tell(x, "ba").chance(5, 1);
        due("with weight 0", x.worth(1, 0), 6);
        due("the last", x.worth(1, 5), 6);
        due("by the alphabet", x.worth(1, -1), 0);
        for (int i = 1; i < 5; i++) {
            due("chance " + i, x.worth(1, i), NO_SUCH);
        }
    }

    private static void refusedWorth() {
        says("15", "NONE - 999999 if one can't be");
        ByAlphabet x = full();
        for (int p : NO_PERSON) {
            due("worth of " + p, x.worth(p, -1), NO_SUCH);
            due("worth of " + p, x.worth(p, 0), NO_SUCH);
        }
        for (int i : new int[] {-2, 1, 4, 6, 7, LEAST, MOST}) {
            due("by chance " + i, x.worth(0, i), NO_SUCH);
        }
    }

    private static void expects(String what, ByAlphabet x, int p, int above, int below) {
        due(what + ", above", x.expected(p, 0), above);
        due(what + ", below", x.expected(p, 1), below);
    }

    private static void expectedOfNothing() {
        says("16", "0 and 0, if all are 0");
        ByAlphabet x = people(2, "a", "b");
        x.site(0, 0, 9, 0, 2);
        expects("no chances", x, 0, 0, 0);
        tell(x, "ab").chance(3, 0);
        expects("one of weight 0", x, 0, 0, 0);
        for (int i = 0; i < 6; i++) {
            tell(x, "ba").chance(i, 0);
        }
        expects("all of weight 0", x, 1, 0, 0);
        tell(x, "ba").chance(5, 1);
        expects("one of weight 1", x, 1, 9, 1);
        tell(x, "ba").chance(5, 0);
        expects("0 again", x, 1, 0, 0);
    }

    private static void expectedSumOfZero() {
        says("16", "0 and 1 if the sum is 0");
        ByAlphabet x = people(2, "a", "b");
        tell(x, "ab").chance(0, 99);
        expects("worth nothing", x, 0, 0, 1);
        x.site(0, 0, 5, 0, 1);
        x.site(1, 1, -5, 0, 1);
        tell(x, "ba").chance(1, 99);
        expects("5 and -5", x, 0, 0, 1);
        x.site(0, 0, 6, 0, 1);
        x.site(1, 1, -3, 0, 1);
        tell(x, "ab").chance(0, 33);
        tell(x, "ba").chance(1, 66);
        expects("6 times 33 and -3 times 66", x, 0, 0, 1);
        expects("-3 times 33 and 6 times 66", x, 1, 3, 1);
    }

    private static void expectedWithoutCommonPart() {
        says("16", "WORTHS by CHANCES times WEIGHTS, added, as that and all WEIGHTS, without a common part");
        ByAlphabet x = people(2, "a", "b");
        x.site(0, 0, 7, 0, 1);
        tell(x, "ab").chance(0, 1);
        tell(x, "ba").chance(1, 98);
        expects("7 of 99", x, 0, 7, 99);
        tell(x, "ba").chance(1, 97);
        expects("7 of 98", x, 0, 1, 14);
        expects("679 of 98", x, 1, 97, 14);
        x.site(0, 0, -7, 0, 1);
        expects("-7 of 98", x, 0, -1, 14);
        for (int s = 0; s < 6; s++) {
            x.site(s, 0, -99, 0, 1);
            tell(x, "ab").chance(s, 99);
        }
        expects("the least of all", x, 0, -594, 1);
        tell(x, "ba").chance(0, 98);
        expects("-594 times 495 of 593", x, 0, -294030, 593);
    }

    private static void refusedExpected() {
        says("16", "NONE - 999999 if one can't be, or another what");
        ByAlphabet x = full();
        for (int p : NO_PERSON) {
            due("of " + p, x.expected(p, 0), NO_SUCH);
            due("of " + p, x.expected(p, 1), NO_SUCH);
        }
        for (int what : new int[] {-1, 2, 3, LEAST, MOST}) {
            due("what " + what, x.expected(0, what), NO_SUCH);
        }
        due("nobody", new ByAlphabet().expected(0, 0), NO_SUCH);
    }

    private static void weds(ByAlphabet x, String with, String whose, String prices) {
        String[] got = {"", "", ""};
        for (int p = 0; p < x.look(1); p++) {
            for (int what = 0; what < 3; what++) {
                got[what] += (p == 0 ? "" : " ") + x.wed(p, what);
            }
        }
        same("with whom", got[0], with);
        same("whose name", got[1], whose);
        same("prices", got[2], prices);
    }

    private static ByAlphabet sexes(int... sexes) {
        ByAlphabet x = new ByAlphabet();
        for (int sex : sexes) {
            tell(x, "a").person(sex, 0, 0);
        }
        return x;
    }

    private static void nobodyToWed() {
        says("21", "with whom (NONE), whose NAME (NONE), the PRICE (0)");
        weds(sexes(0), "-1", "-1", "0");
        weds(sexes(1), "-1", "-1", "0");
        weds(sexes(0, 0, 0), "-1 -1 -1", "-1 -1 -1", "0 0 0");
        weds(sexes(1, 1), "-1 -1", "-1 -1", "0 0");
    }

    private static void fewerToWed() {
        says("21", "until nobody who is left has one to ask");
        ByAlphabet x = sexes(1, 1, 1, 0);
        x.site(0, 0, 9, 3, 4);
        // Worths 9, 6, 3, 0: the only one who asks has the best.
        weds(x, "3 -1 -1 0", "0 -1 -1 0", "9 0 0 9");
        ByAlphabet y = sexes(0, 0, 0, 1);
        y.site(0, 1, 9, 3, 4);
        // Worths 0, 3, 6, 9: all ask the only one.
        weds(y, "-1 -1 3 2", "-1 -1 3 3", "0 0 3 3");
    }

    private static void alikeToWed() {
        says("21", "the greater first, then the lesser number; by WORTH, then number; of SEX 0, if alike");
        weds(sexes(1, 1, 0, 0, 0), "2 3 0 1 -1", "2 3 2 3 -1", "0 0 0 0 0");
        weds(sexes(0, 0, 1, 1, 1), "2 3 0 1 -1", "0 1 0 1 -1", "0 0 0 0 0");
        ByAlphabet x = sexes(0, 1);
        x.site(0, 0, 1, 0, 1);
        weds(x, "1 0", "0 0", "1 1");
        x.site(0, 1, 1, 0, 1);
        weds(x, "1 0", "1 1", "1 1");
    }

    private static void pricesBelowZero() {
        says("21", "WORTH of that one less that of the other one");
        ByAlphabet x = sexes(0, 1, 1, 0);
        x.site(0, 0, -9, 4, 4);
        // Worths -9, -5, -1, 0.
        weds(x, "1 0 3 2", "1 1 3 3", "4 4 1 1");
        for (int s = 1; s < 6; s++) {
            x.site(s, 0, -99, 0, 1);
        }
        weds(x, "1 0 3 2", "1 1 3 3", "499 499 1 1");
    }

    private static void tenCouples() {
        says("21", "each in the order of their WORTH");
        ByAlphabet x = new ByAlphabet();
        for (int p = 0; p < 20; p++) {
            tell(x, "a").person(p < 10 ? 1 : 0, 0, 0);
        }
        x.site(0, 1, 40, 2, 20);
        // Worths 2, 4, .. 40: 19 is the best who asks, 9 the best who is asked.
        for (int p = 0; p < 20; p++) {
            due("with whom", x.wed(p, 0), p < 10 ? p + 10 : p - 10);
            due("whose name", x.wed(p, 1), p < 10 ? p + 10 : p);
            due("price", x.wed(p, 2), 20);
        }
    }

    private static void refusedWed() {
        says("21", "NONE - 999999 if there is none such, or another what");
        ByAlphabet x = full();
        for (int p : NO_PERSON) {
            for (int what = 0; what < 3; what++) {
                due("wed " + p, x.wed(p, what), NO_SUCH);
            }
        }
        for (int what : new int[] {-1, 3, 4, LEAST, MOST}) {
            due("what " + what, x.wed(0, what), NO_SUCH);
            due("what " + what, x.wed(2, what), NO_SUCH);
        }
        due("nobody", new ByAlphabet().wed(0, 0), NO_SUCH);
    }
}

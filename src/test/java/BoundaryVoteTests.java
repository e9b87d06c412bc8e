/** The edges of promises 22 to 26, sentence by sentence: VOTERS, RULES, CIRCLE, BOUGHT. */
public final class BoundaryVoteTests extends Told {
    private static final int[] NO_LETTER = {-1, 3, 4, 8, 25, LEAST, MOST};

    private BoundaryVoteTests() {
    }

    public static void main(String[] args) {
        weightsAndPrices();
        refusedVoters();
        twelveVoters();
        withoutVotersNobodyIsFor();
        greatestFor();
        refusedOver();
        withoutVotersTheAlphabet();
        pointsAtTheEdges();
        alikeIsNoBeating();
        lesserLetterIfAlike();
        nearestOfSeveral();
        mostLettersAndVoters();
        refusedVote();
        noCircle();
        circlesOfAllLetters();
        besideCircles();
        buyWithoutVoters();
        nothingToBuy();
        leastPrice();
        fewestOfOnePrice();
        leastAsNumber();
        allAreBought();
        elevenOfTwelve();
        allOthersAsTheyWere();
        boughtByTheWords();
        refusedBuy();
        finish();
    }

    private static void weightsAndPrices() {
        says("22", "VOTERS 0 .. 11 as they come: an ORDER, a WEIGHT 1 .. 9, a PRICE 0 .. 999");
        ByAlphabet x = made(2);
        due("the least", tell(x, "ab").voter(1, 0), 0);
        tapeIsEmpty("voter", x);
        due("a over b", x.over(0, 1), 1);
        due("the most", tell(x, "ab").voter(9, 999), 1);
        due("a over b", x.over(0, 1), 10);
        due("others", tell(x, "ba").voter(2, 1), 2);
        due("others", tell(x, "ba").voter(8, 998), 3);
        due("b over a", x.over(1, 0), 10);
        due("four", x.look(3), 4);
        for (int k = 2; k <= 8; k++) {
            due("of " + k + " letters", tell(made(k), "hgfedcba".substring(8 - k)).voter(1, 0), 0);
        }
    }

    private static void refusedVoters() {
        says("22", "NONE if one can't be");
        ByAlphabet x = full();
        String before = pictureOf(x);
        for (int weight : new int[] {0, 10, -1, LEAST, MOST}) {
            due("weight " + weight, tell(x, "abc").voter(weight, 0), -1);
            tapeIsEmpty("weight " + weight, x);
        }
        for (int price : new int[] {-1, 1000, LEAST, MOST}) {
            due("price " + price, tell(x, "abc").voter(1, price), -1);
            tapeIsEmpty("price " + price, x);
        }
        for (String order : new String[] {"", "a", "ab", "abcd", "aab", "abd", "ABC", "ab ", "a".repeat(400)}) {
            due("order " + order, tell(x, order).voter(1, 0), -1);
            tapeIsEmpty("order " + order, x);
        }
        nothingIsDone("voter", x, before);
        due("the next number", tell(x, "abc").voter(1, 0), 2);
    }

    private static void twelveVoters() {
        says("22", "NONE .. if there are twelve");
        ByAlphabet x = made(2);
        for (int v = 0; v < 12; v++) {
            due("voter", tell(x, "ab").voter(1, 0), v);
        }
        for (int time = 0; time < 2; time++) {
            due("the 13th", tell(x, "ba").voter(9, 9), -1);
            tapeIsEmpty("the 13th", x);
            due("twelve", x.look(3), 12);
            due("a over b", x.over(0, 1), 12);
            due("b over a", x.over(1, 0), 0);
        }
    }

    private static void withoutVotersNobodyIsFor() {
        says("23", "FOR a over b: WEIGHTS of those with a ahead of b");
        ByAlphabet x = made(8);
        for (int a = 0; a < 8; a++) {
            for (int b = 0; b < 8; b++) {
                due(a + " over " + b, x.over(a, b), a == b ? -1 : 0);
            }
        }
    }

    private static void greatestFor() {
        says("23", "WEIGHTS of those with a ahead of b");
        ByAlphabet x = made(8);
        for (int v = 0; v < 12; v++) {
            tell(x, "hgfedcba").voter(9, 999);
        }
        due("h over a", x.over(7, 0), 108);
        due("a over h", x.over(0, 7), 0);
        due("b over a", x.over(1, 0), 108);
        due("h over g", x.over(7, 6), 108);
    }

    private static void refusedOver() {
        says("23", "NONE if one can't be (the same)");
        ByAlphabet x = full();
        for (int a : NO_LETTER) {
            for (int b = 0; b < 3; b++) {
                due(a + " over " + b, x.over(a, b), -1);
                due(b + " over " + a, x.over(b, a), -1);
            }
            due(a + " over itself", x.over(a, a), -1);
        }
        for (int a = 0; a < 3; a++) {
            due("the same", x.over(a, a), -1);
        }
        due("the last letter", made(2).over(1, 0), 0);
        due("from abroad", made(2).over(2, 0), -1);
    }

    private static void withoutVotersTheAlphabet() {
        says("24", "Without VOTERS: THE ALPHABET");
        for (int k = 2; k <= 8; k++) {
            ByAlphabet x = made(k);
            String turned = "hgfedcba".substring(8 - k);
            for (int rule = 0; rule < 3; rule++) {
                same("at first", voteOf(x, rule), "abcdefgh".substring(0, k));
            }
            tell(x, turned).alphabet();
            for (int rule = 0; rule < 3; rule++) {
                same("told", voteOf(x, rule), turned);
            }
        }
    }

    private static void pointsAtTheEdges() {
        says("24", "K less 1 for the first LETTER, .. 0 for the last, times WEIGHT, added");
        // a: 2 * 4 = 8, b: 1 * 4 + 1 * 1 + 1 * 2 = 7, c: 2 * 1 + 2 * 2 = 6
        same("8, 7, 6", voteOf(voters(3, "abc", "4", "0", "cba", "1", "0", "cba", "2", "0"), 0), "abc");
        // a: 2 * 3 = 6, b: 3 + 3 = 6, c: 2 * 3 = 6
        same("6, 6, 6", voteOf(voters(3, "abc", "3", "0", "cba", "3", "0"), 0), "abc");
        // a: 6, b: 7, c: 8
        same("6, 7, 8", voteOf(voters(3, "abc", "3", "0", "cba", "4", "0"), 0), "cba");
        // a: 9 + 16 = 25, b: 18 + 8 = 26, c: 0
        same("by one more", voteOf(voters(3, "bac", "9", "0", "abc", "8", "0"), 0), "bac");
    }

    private static void alikeIsNoBeating() {
        says("24", "1 pairs: for each LETTER how many others it beats (FOR it above FOR the other)");
        // c beats a, a and b are alike, b and c are alike
        same("one beats", voteOf(voters(3, "cab", "1", "0", "bca", "1", "0"), 1), "cab");
        same("nobody beats", voteOf(voters(3, "cba", "5", "0", "abc", "5", "0"), 1), "abc");
        same("by one", voteOf(voters(3, "cba", "5", "0", "abc", "4", "0"), 1), "cba");
        same("by one the other way", voteOf(voters(3, "cba", "4", "0", "abc", "5", "0"), 1), "abc");
    }

    private static void lesserLetterIfAlike() {
        says("24", "the ORDER by that, the greater first, then the lesser LETTER");
        ByAlphabet x = voters(8, "abcdefgh", "9", "0", "hgfedcba", "9", "0");
        for (int rule = 0; rule < 3; rule++) {
            same("all alike", voteOf(x, rule), "abcdefgh");
        }
        tell(x, "hgfedcba").alphabet();
        for (int rule = 0; rule < 3; rule++) {
            same("the lesser letter, not the first of the alphabet", voteOf(x, rule), "abcdefgh");
        }
        tell(x, "hgfedcba").voter(1, 0);
        for (int rule = 0; rule < 3; rule++) {
            same("one more", voteOf(x, rule), "hgfedcba");
        }
        // The last two alike, and the first two alike.
        ByAlphabet y = voters(4, "badc", "1", "0", "abcd", "1", "0");
        for (int rule = 0; rule < 3; rule++) {
            same("two and two alike", voteOf(y, rule), "abcd");
        }
    }

    private static void nearestOfSeveral() {
        says("24", "2 nearest: .. is greatest; of several the first (the lesser LETTER at the first unlikeness)");
        // abc, bca and cab have 5 of 9 each.
        same("abc first", voteOf(voters(3, "cab", "1", "0", "bca", "1", "0", "abc", "1", "0"), 2), "abc");
        // acb, bac and cba have 5 of 9 each.
        ByAlphabet x = voters(3, "cba", "1", "0", "bac", "1", "0", "acb", "1", "0");
        same("acb first", voteOf(x, 2), "acb");
        same("by pairs", voteOf(x, 1), "abc");
        // c over b 5 : 2, b over a 5 : 2, a over c 4 : 3; cba has 13, acb and bac have 11
        same("the greatest", voteOf(voters(3, "cba", "3", "0", "bac", "2", "0", "acb", "2", "0"), 2), "cba");
    }

    private static void mostLettersAndVoters() {
        says("24", "VOTERS 0 .. 11; WEIGHT 1 .. 9; K 8");
        ByAlphabet x = made(8);
        for (int v = 0; v < 12; v++) {
            tell(x, "hgfedcba").voter(9, 999);
        }
        for (int rule = 0; rule < 3; rule++) {
            same("all of one mind", voteOf(x, rule), "hgfedcba");
        }
        ByAlphabet y = made(8);
        for (int v = 0; v < 11; v++) {
            tell(y, v < 5 ? "hgfedcba" : "abcdefgh").voter(9, 0);
        }
        tell(y, "hgfedcba").voter(9, 0);
        for (int rule = 0; rule < 3; rule++) {
            same("six and six", voteOf(y, rule), "abcdefgh");
        }
    }

    private static void refusedVote() {
        says("24", "NONE if one can't be");
        ByAlphabet x = full();
        for (int rule : new int[] {-1, 3, 4, LEAST, MOST}) {
            for (int i = 0; i < 3; i++) {
                due("rule " + rule, x.vote(rule, i), -1);
            }
            due("rule " + rule, new ByAlphabet().vote(rule, 0), -1);
        }
        for (int i : NO_LETTER) {
            for (int rule = 0; rule < 3; rule++) {
                due("letter " + i, x.vote(rule, i), -1);
                due("letter " + i + " without voters", made(3).vote(rule, i), -1);
            }
        }
        due("the last letter", made(8).vote(2, 7), 7);
        due("none behind it", made(8).vote(2, 8), -1);
    }

    private static void noCircle() {
        says("25", "CIRCLE: LETTERS from which by beating (FOR above) one comes back to them");
        for (int k = 2; k <= 8; k++) {
            due("without voters", made(k).circle(), 0);
            due("one voter", voters(k, "abcdefgh".substring(0, k), "9", "0").circle(), 0);
        }
        due("two letters", voters(2, "ab", "1", "0", "ba", "1", "0").circle(), 0);
        due("two letters", voters(2, "ab", "1", "0", "ba", "2", "0").circle(), 0);
        // a beats b, b beats c, c and a are alike
        due("alike is no beating", voters(3, "abc", "1", "0", "cab", "1", "0").circle(), 0);
        due("nor round about", voters(3, "abc", "2", "0", "bca", "2", "0", "cab", "4", "0").circle(), 0);
        due("beaten by one", voters(3, "abc", "2", "0", "bca", "2", "0", "cab", "3", "0").circle(), 3);
    }

    private static void circlesOfAllLetters() {
        says("25", "how many");
        due("eight", voters(8, "abcdefgh", "1", "0", "cdefghab", "1", "0", "fghabcde", "1", "0").circle(), 8);
        due("seven", voters(7, "abcdefg", "1", "0", "cdefgab", "1", "0", "fgabcde", "1", "0").circle(), 7);
        due("three", voters(3, "abc", "9", "0", "bca", "9", "0", "cab", "9", "0").circle(), 3);
    }

    private static void besideCircles() {
        says("25", "LETTERS from which by beating one comes back to them");
        due("one beaten by all", voters(8, "abcdefgh", "1", "0", "cdefgabh", "1", "0", "fgabcdeh", "1", "0").circle(), 7);
        due("one that beats all", voters(8, "habcdefg", "1", "0", "hcdefgab", "1", "0", "hfgabcde", "1", "0").circle(), 7);
        due("one between two threes", voters(7, "abcdefg", "1", "0", "bcadfge", "1", "0", "cabdgef", "1", "0").circle(), 6);
    }

    private static void buys(String what, ByAlphabet x, int rule, String pair, int... due) {
        int a = pair.charAt(0) - 'a';
        int b = pair.charAt(1) - 'a';
        due(what + ": the set by rule " + rule, x.buy(a, b, rule, 0), due[0]);
        due(what + ": its price by rule " + rule, x.buy(a, b, rule, 1), due[1]);
    }

    private static void buyWithoutVoters() {
        says("26", "NONE if there is none (without VOTERS: THE ALPHABET)");
        ByAlphabet x = made(8);
        tell(x, "hgfedcba").alphabet();
        for (int rule = 0; rule < 3; rule++) {
            buys("so already", x, rule, "ha", 0, 0);
            buys("so already", x, rule, "ba", 0, 0);
            buys("nobody to buy", x, rule, "ah", -1, -1);
            buys("nobody to buy", x, rule, "ab", -1, -1);
        }
    }

    private static void nothingToBuy() {
        says("26", "of all sets of VOTERS that bring it about that with the least PRICE, then the fewest");
        ByAlphabet x = voters(3, "abc", "1", "0", "bac", "1", "0", "cba", "1", "5");
        for (int rule = 0; rule < 3; rule++) {
            buys("so already, though two are free", x, rule, "bc", 0, 0);
        }
    }

    private static void leastPrice() {
        says("26", "that with the least PRICE");
        // a has 0 of 6 and needs 3, the lesser LETTER.
        ByAlphabet x = voters(2, "ba", "3", "6", "ba", "1", "2", "ba", "2", "3");
        for (int rule = 0; rule < 3; rule++) {
            buys("5 rather than 6", x, rule, "ab", 6, 5);
        }
        // b needs more than half of 6.
        ByAlphabet y = voters(2, "ab", "3", "6", "ab", "1", "2", "ab", "2", "3");
        for (int rule = 0; rule < 3; rule++) {
            buys("more than half", y, rule, "ba", 3, 8);
        }
    }

    private static void fewestOfOnePrice() {
        says("26", "then the fewest");
        ByAlphabet x = voters(2, "ba", "1", "3", "ba", "1", "3", "ba", "2", "6");
        for (int rule = 0; rule < 3; rule++) {
            buys("one for 6 rather than two", x, rule, "ab", 4, 6);
        }
        ByAlphabet free = voters(2, "ba", "1", "0", "ba", "1", "0", "ba", "2", "0", "ab", "1", "0");
        for (int rule = 0; rule < 3; rule++) {
            buys("one for nothing rather than two", free, rule, "ab", 4, 0);
        }
    }

    private static void leastAsNumber() {
        says("26", "then the least as a number");
        ByAlphabet x = voters(2, "ba", "2", "7", "ba", "2", "7", "ba", "2", "7", "ba", "2", "7");
        for (int rule = 0; rule < 3; rule++) {
            buys("the first two", x, rule, "ab", 3, 14);
        }
        // {0, 3} and {1, 2} cost and count the same: 9 and 6
        ByAlphabet y = voters(2, "ba", "1", "4", "ba", "2", "5", "ba", "2", "5", "ba", "3", "6");
        for (int rule = 0; rule < 3; rule++) {
            buys("6 rather than 9", y, rule, "ab", 6, 10);
        }
    }

    private static ByAlphabet ofOneMind(int many, int weight, int price) {
        ByAlphabet x = made(8);
        for (int v = 0; v < many; v++) {
            tell(x, "abcdefgh").voter(weight, price);
        }
        return x;
    }

    private static void allAreBought() {
        says("26", "of all sets of VOTERS");
        // h needs 7 n above 6 n + 7 (8 - n): n above 7
        buys("eight of eight", ofOneMind(8, 9, 999), 0, "ha", 255, 7992);
        buys("one of one", ofOneMind(1, 1, 999), 1, "ha", 1, 999);
        buys("seven of twelve", ofOneMind(12, 9, 999), 1, "ha", 127, 6993);
        buys("seven of twelve", ofOneMind(12, 9, 999), 2, "ha", 127, 6993);
        ByAlphabet x = ofOneMind(11, 1, 0);
        tell(x, "abcdefgh").voter(9, 999);
        // 18 of 20 by points: the twelfth and nine others
        buys("the twelfth too", x, 0, "ha", 2048 + 511, 999);
    }

    private static void elevenOfTwelve() {
        says("26", "of all sets of VOTERS .. then the least as a number");
        // h needs 7 n above 6 n + 7 (12 - n): n above 10.5; against the last but one: 7 n above n + 12 - n, so n above 1.7
        buys("eleven", ofOneMind(12, 1, 1), 0, "ha", 2047, 11);
        buys("two", ofOneMind(12, 1, 1), 0, "hg", 3, 2);
    }

    private static void allOthersAsTheyWere() {
        says("26", "a VOTER who is bought has a told LETTER first, all others as they were");
        // Bought for c: cab. So b is the last still, and a ahead of it.
        ByAlphabet x = voters(3, "abc", "1", "4");
        buys("c over a", x, 0, "ca", 1, 4);
        buys("a over b is so", x, 0, "ab", 0, 0);
        buys("c over b", x, 0, "cb", 1, 4);
        due("in thought", x.over(0, 2), 1);
        ByAlphabet y = voters(3, "abc", "1", "1", "bac", "2", "9", "cba", "1", "0");
        // a 4, b 6, c 2; with 0 bought: cab, bac, cba: a 3, b 5, c 4; with 1: abc, cba, cba: a 2, b 4, c 6
        buys("c over b", y, 0, "cb", 2, 9);
        buys("c over a", y, 0, "ca", 1, 1);
    }

    private static final String[][] PROFILES = {
        {"cba", "1", "3", "bac", "1", "2", "acb", "1", "1"},
        {"bca", "4", "5", "cab", "3", "5", "abc", "2", "1", "cba", "2", "0"},
        {"abcd", "3", "4", "bcda", "3", "4", "cdab", "3", "4", "dabc", "3", "4"},
        {"dcba", "2", "7", "adcb", "2", "7", "bdac", "1", "3", "cabd", "4", "9", "dbca", "1", "0"},
        {"edcba", "5", "6", "abecd", "4", "2", "caebd", "3", "2", "dbace", "2", "2"},
        {"ebdac", "1", "1", "acebd", "1", "1", "dabec", "1", "1", "cdeab", "1", "1", "bcdea", "1", "1"}};

    /** The ORDER by a RULE when a set of a profile's VOTERS is bought for a letter: told so to an object of its own. */
    private static String boughtOrder(String[] profile, int set, char letter, int rule) {
        String[] told = profile.clone();
        for (int v = 0; 3 * v < told.length; v++) {
            if ((set >> v & 1) == 1) {
                told[3 * v] = letter + told[3 * v].replace(String.valueOf(letter), "");
            }
        }
        return voteOf(voters(told[0].length(), told), rule);
    }

    private static int[] cheapest(String[] profile, char a, char b, int rule) {
        int[] best = {-1, -1};
        for (int set = 0; set < 1 << profile.length / 3; set++) {
            int price = 0;
            for (int v = 0; v < profile.length / 3; v++) {
                price += (set >> v & 1) * Integer.parseInt(profile[3 * v + 2]);
            }
            boolean isBetter = best[0] < 0 || price < best[1]
                    || price == best[1] && Integer.bitCount(set) < Integer.bitCount(best[0]);
            String order = isBetter ? boughtOrder(profile, set, a, rule) : "";
            if (isBetter && order.indexOf(a) < order.indexOf(b)) {
                best = new int[] {set, price};
            }
        }
        return best;
    }

    private static void boughtByTheWords() {
        says("26", "of all sets of VOTERS that bring it about that with the least PRICE, then the fewest, then the least");
        for (String[] profile : PROFILES) {
            int k = profile[0].length();
            ByAlphabet x = voters(k, profile);
            for (int pair = 0; pair < k * k; pair++) {
                char a = (char) ('a' + pair / k);
                char b = (char) ('a' + pair % k);
                for (int rule = 0; rule < 3 && a != b; rule++) {
                    buys(profile[0] + " ..: " + a + " over " + b, x, rule, "" + a + b, cheapest(profile, a, b, rule));
                }
            }
        }
    }

    private static void refusedBuy() {
        says("26", "NONE if .. one can't be, or another what");
        ByAlphabet x = full();
        String before = pictureOf(x);
        for (int rule = 0; rule < 3; rule++) {
            for (int what = 0; what < 2; what++) {
                for (int a : NO_LETTER) {
                    due("letter a " + a, x.buy(a, 0, rule, what), -1);
                    due("letter b " + a, x.buy(0, a, rule, what), -1);
                    due("both " + a, x.buy(a, a, rule, what), -1);
                }
                due("the same", x.buy(0, 0, rule, what), -1);
                due("the same", x.buy(2, 2, rule, what), -1);
            }
            for (int what : new int[] {-1, 2, 3, LEAST, MOST}) {
                due("what " + what, x.buy(0, 1, rule, what), -1);
            }
        }
        for (int rule : new int[] {-1, 3, 4, LEAST, MOST}) {
            due("rule " + rule, x.buy(0, 1, rule, 0), -1);
            due("rule " + rule, x.buy(0, 1, rule, 1), -1);
        }
        nothingIsDone("buy", x, before);
    }
}

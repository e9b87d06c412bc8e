/** The edges of promises 1 to 7, sentence by sentence: STATE, LETTERS, the TAPE, and NAMING as a text. */
public final class BoundaryTapeTests extends Told {
    private static final int[] WRONG_LETTERS = {1, 9, 0, -1, -2, -5, 10, 26, LEAST, MOST};

    private BoundaryTapeTests() {
    }

    public static void main(String[] args) {
        nobodyAndFiveLetters();
        stateIsAnyInt();
        drawsWrap();
        drawsAreWithoutSign();
        fewestAndMostLetters();
        refusedLetters();
        lettersToldAnew();
        lettersLeaveTapeAndFault();
        lettersLeaveImage();
        tapeIsFull();
        tapeWouldBeTooLong();
        bytesFromHighest();
        bytesAboveSeven();
        endAtLength();
        endCutsForGood();
        emptyText();
        fullTape();
        linesOfNaming();
        faultLeavesNaming();
        keywords();
        keywordsElsewhere();
        numbers();
        blanks();
        tokensSideBySide();
        faultAtEnd();
        faultOfPart();
        faultOfLines();
        faultOfOpenOnes();
        closedOnesAreNotOpen();
        firstFaultByPlace();
        leastFaultAtOnePlace();
        latestText();
        otherFault();
        finish();
    }

    private static void nobodyAndFiveLetters() {
        says("1", "Nobody; five letters");
        ByAlphabet x = new ByAlphabet();
        due("nobody", x.look(1), 0);
        due("nobody", x.of(0, 0), NO_SUCH);
        due("letter 4 is the last", x.look(14), 4);
        due("no letter 5", x.look(15), -1);
        x.person(0, 0, 0);
        tell(x, "may when abroad=0;bar;").text();
        due("e is a letter", with(x, 0, "e", 0), 1);
        due("f is from abroad", with(x, 0, "f", 0), 0);
        due("NONE", ByAlphabet.NONE, -1);
    }

    private static void stateIsAnyInt() {
        says("2", "STATE is told: what it was");
        ByAlphabet x = new ByAlphabet();
        int before = 0;
        for (int v : new int[] {MOST, LEAST, -1, 0, 1, 1 << 24, -(1 << 24)}) {
            due("state " + v, x.state(v), before);
            due("told " + v, x.look(6), v);
            before = v;
        }
    }

    /** The STATE that a DRAW makes a told one. */
    private static int stateAheadOf(int next) {
        int inverse = 1;
        for (int i = 0; i < 6; i++) {
            inverse *= 2 - 1664525 * inverse;
        }
        return (next - 1013904223) * inverse;
    }

    private static ByAlphabet drawing(int state, int many) {
        ByAlphabet x = new ByAlphabet();
        tell(x, "z").person(0, 99, 0);
        for (int i = 0; i < many; i++) {
            tell(x, String.valueOf((char) ('a' + i))).sell();
        }
        x.state(state);
        x.years(1);
        return x;
    }

    private static void drawsWrap() {
        says("2, 30", "ints, which wrap");
        due("from 0", drawing(0, 1).look(6), 1013904223);
        due("from the most", drawing(MOST, 1).look(6), -1135243950);
        due("from the least", drawing(LEAST, 1).look(6), -1133579425);
        due("from -1", drawing(-1, 1).look(6), 1012239698);
    }

    private static void drawn(int next, int many, int due) {
        ByAlphabet x = drawing(stateAheadOf(next), many);
        due("STATE", x.look(6), next);
        due(next + " of " + many, x.of(0, 10), due);
    }

    private static void drawsAreWithoutSign() {
        says("2, 30", "its highest 24 bits (without sign) modulo m");
        drawn(-1, 10, 5);
        drawn(-1, 7, 0);
        drawn(-1, 8, 7);
        drawn(LEAST, 10, 8);
        drawn(MOST, 10, 7);
        drawn(0, 10, 0);
        drawn(255, 10, 0);
        drawn(256, 10, 1);
        drawn(9 * 256 + 255, 10, 9);
        drawn(10 * 256, 10, 0);
        drawn(-256, 10, 5);
        drawn(-257, 10, 4);
        drawn(-1, 1, 0);
    }

    private static void fewestAndMostLetters() {
        says("3", "K (2 .. 8)");
        for (int k = 2; k <= 8; k++) {
            ByAlphabet x = new ByAlphabet();
            yes("letters " + k, x.letters(k));
            due("K", x.look(0), k);
            same("the alphabet", alphabetOf(x), "abcdefgh".substring(0, k));
            due("no letter behind the last", x.look(10 + k), -1);
            x.person(0, 0, 0);
            tell(x, "may when abroad=0;bar;").text();
            due("the last letter", with(x, 0, "abcdefgh".substring(k - 1, k), 0), 1);
            due("the first from abroad", with(x, 0, "abcdefghi".substring(k, k + 1), 0), 0);
        }
    }

    private static void refusedLetters() {
        says("3", "false, and nothing is done, if it can't be");
        ByAlphabet x = full();
        String before = pictureOf(x);
        for (int k : WRONG_LETTERS) {
            no("letters " + k, x.letters(k));
            nothingIsDone("letters " + k, x, before);
        }
        tell(x, "bcb");
        no("letters 9", x.letters(9));
        yes("the tape stays", x.named(0));
        same("as it was", nameOf(x, 0), "bcb");
    }

    /** Somebody, so that SITES, CHANCES and laws show. */
    private static String withPeople(ByAlphabet x) {
        tell(x, "ab").person(0, 30, 100);
        tell(x, "c").person(1, 40, 50);
        tell(x, "ab").person(1, 50, 5);
        return pictureOf(x);
    }

    private static void lettersToldAnew() {
        says("3", "told anew: all is as at first but K, STATE");
        for (int k : new int[] {3, 2, 8}) {
            ByAlphabet x = full();
            ByAlphabet y = made(k);
            x.state(-77);
            y.state(-77);
            yes("letters " + k, x.letters(k));
            due("STATE stays", x.look(6), -77);
            same("all is as at first", pictureOf(x), pictureOf(y));
            same("for all who come", withPeople(x), withPeople(y));
            due("NAMING is empty", with(x, 0, "aaaa", 0), 1);
            due("the first of the market", sells(x, "a").look(2), 1);
            due("years", x.years(1), 1);
        }
    }

    private static void lettersLeaveTapeAndFault() {
        says("3", "all is as at first but .. the TAPE, fault()");
        ByAlphabet x = new ByAlphabet();
        tell(x, "may when 1/0=1;").text();
        tell(x, "cab");
        yes("letters", x.letters(3));
        due("the fault stays", x.fault(0), 2);
        due("its place stays", x.fault(1), 11);
        yes("the tape stays", x.alphabet());
        same("as it was", alphabetOf(x), "cab");
        for (int i = 0; i < 20; i++) {
            fed(x);
        }
        yes("letters", x.letters(2));
        due("a full tape stays full", fed(x), -1);
    }

    private static void lettersLeaveImage() {
        says("3", "all is as at first but .. THE IMAGE");
        ByAlphabet x = full();
        String before = pictureOf(x);
        x.image(true);
        for (int k : new int[] {8, 2, 3}) {
            yes("letters", x.letters(k));
            yes("the image stays", x.image(false));
            same("as it was", pictureOf(x), before);
        }
        ByAlphabet y = full();
        yes("letters", y.letters(4));
        no("none stays none", y.image(false));
    }

    private static void tapeIsFull() {
        says("4", "NONE, and nothing comes, if there would be more than 400");
        ByAlphabet x = new ByAlphabet();
        for (int i = 1; i <= 20; i++) {
            due("feed " + i, fed(x), 20 * i);
        }
        due("the 21st", fed(x), -1);
        due("once more", fed(x), -1);
        yes("400", x.end(400));
        no("no more", x.end(401));
        x.end(0);
        tell(x, "bar" + " ".repeat(396) + ";");
        due("a full one", x.feed(0x41414141, 0, 0, 0, 0), -1);
        due("nothing came", x.text(), 1);
    }

    private static void tapeWouldBeTooLong() {
        says("4", "NONE, and nothing comes, if there would be more than 400");
        for (int n = 379; n <= 399; n++) {
            ByAlphabet x = tell(new ByAlphabet(), "bar;" + " ".repeat(n - 4));
            due("twenty behind " + n, x.feed(0x20202020, 0x20202020, 0x20202020, 0x20202020, 0x20202020), n <= 380 ? n + 20 : -1);
            due("not one byte came", x.end(n + 1) ? 1 : 0, n <= 380 ? 1 : 0);
            due("the text", x.text(), 1);
        }
    }

    private static void bytesFromHighest() {
        says("4", "Twenty bytes come behind the TAPE, of each number the highest first: how many it has");
        ByAlphabet x = new ByAlphabet();
        x.person(0, 0, 0);
        // "bar when letters=12;"
        due("twenty", x.feed(0x62617220, 0x7768656e, 0x206c6574, 0x74657273, 0x3d31323b), 20);
        due("one line", x.text(), 1);
        // "may;" behind three bytes of "bar "
        x.feed(0x62617200, 0, 0, 0, 0);
        x.end(3);
        due("twenty behind three", x.feed(0x3b6d6179, 0x3b202020, 0x20202020, 0x20202020, 0x20202020), 23);
        due("two lines", x.text(), 2);
        due("barred", with(x, 0, "a", 0), 0);
    }

    private static void bytesAboveSeven() {
        says("4", "of each number the highest first");
        for (int place = 0; place < 4; place++) {
            ByAlphabet x = new ByAlphabet();
            x.feed(0x6d61793b, 0x20202020 ^ 0xa0 << 24 - 8 * place, 0x20202020, 0x20202020, 0x20202020);
            due("byte 128", x.text(), -1);
            due("its place", x.fault(1), 4 + place);
            x.feed(0x6d61793b, 0x20202020 | 0xff << 24 - 8 * place, 0x20202020, 0x20202020, 0x20202020);
            due("byte 255", x.text(), -1);
            due("its place", x.fault(1), 4 + place);
        }
    }

    private static void endAtLength() {
        says("5", "false, changing nothing, if it has not so many, or n is below 0");
        ByAlphabet x = new ByAlphabet();
        yes("0 of 0", x.end(0));
        no("1 of 0", x.end(1));
        tell(x, "cab");
        for (int n : new int[] {4, 5, 20, 21, 400, 401, -1, -3, LEAST, MOST}) {
            no("end " + n, x.end(n));
        }
        yes("3 of 3", x.end(3));
        due("changing nothing", x.person(0, 0, 0), 0);
        same("cab", nameOf(x, 0), "cab");
        for (int i = 0; i < 20; i++) {
            fed(x);
        }
        no("401 of 400", x.end(401));
        yes("400 of 400", x.end(400));
        yes("399 of 400", x.end(399));
        no("400 of 399", x.end(400));
    }

    private static void endCutsForGood() {
        says("5", "The TAPE has its first n bytes alone");
        ByAlphabet x = tell(new ByAlphabet(), "abcdef");
        yes("2", x.end(2));
        no("3 are no more", x.end(3));
        due("two and twenty", x.feed(0x7a7a7a7a, 0, 0, 0, 0), 22);
        yes("4", x.end(4));
        x.person(0, 0, 0);
        same("behind the two", nameOf(x, 0), "abzz");
        tell(x, "abcdef");
        yes("none of them", x.end(0));
        due("an empty name", x.person(0, 0, 0), 1);
        same("no letters", nameOf(x, 1), "");
    }

    private static void emptyText() {
        says("6", "NAMING is a TEXT (empty at first); how many lines");
        ByAlphabet x = alike(1, "a");
        due("at first", x.look(4), 0);
        due("may at first", with(x, 0, "zz", 0), 1);
        tell(x, "bar;").text();
        due("bar", with(x, 0, "zz", 0), 0);
        due("an empty tape", x.text(), 0);
        due("no fault", x.fault(0), 0);
        due("no lines", x.look(4), 0);
        due("may", with(x, 0, "zz", 0), 1);
        for (String blank : new String[] {" ", "\n", "\n \n", " ".repeat(400), "\n".repeat(400)}) {
            tell(x, "bar;").text();
            due("blanks alone", tell(x, blank).text(), 0);
            due("no lines", x.look(4), 0);
            due("may", with(x, 0, "zz", 0), 1);
        }
    }

    private static void fullTape() {
        says("6", "The TAPE, empty then, is NAMING");
        ByAlphabet x = alike(1, "a");
        due("400 bytes", tell(x, " ".repeat(396) + "bar;").text(), 1);
        tapeIsEmpty("text", x);
        due("bar", with(x, 0, "b", 0), 0);
        due("sixteen lines over 400 bytes", tell(x, "may when age>99;         ".repeat(16)).text(), 16);
        due("a sum of 193", tell(x, "bar when 1" + "+1".repeat(192) + "=193; ").text(), 1);
        due("is 193", with(x, 0, "b", 0), 0);
        due("a sum of 193", tell(x, "bar when 1" + "+1".repeat(192) + "=192; ").text(), 1);
        due("is not 192", with(x, 0, "b", 0), 1);
        due("400 signs", tell(x, ";".repeat(400)).text(), -1);
        due("400 signs, the last one wrong", tell(x, "may;" + " ".repeat(395) + "+").text(), -1);
        due("its place", x.fault(1), 399);
    }

    private static void linesOfNaming() {
        says("6", "how many lines");
        ByAlphabet x = new ByAlphabet();
        for (int n = 1; n <= 16; n++) {
            due(n + " lines", tell(x, "bar;".repeat(n)).text(), n);
            due("as told", x.look(4), n);
        }
        due("one again", tell(x, "may when 1=1 ;").text(), 1);
        due("as told", x.look(4), 1);
        ByAlphabet y = alike(1, "a");
        tell(y, "bar when letters=9;".repeat(15) + "bar when letters=2;").text();
        due("the 16th line counts", with(y, 0, "ab", 0), 0);
        due("behind the 16th", with(y, 0, "abc", 0), 1);
    }

    private static void faultLeavesNaming() {
        says("6", "NONE: a FAULT (it stays as it was)");
        for (String wrong : new String[] {"may;may", "may;may;may when 1/0=1;", "may;".repeat(17), "x", ";", "may;bar;may when 1=1 or"}) {
            ByAlphabet x = alike(1, "a");
            tell(x, "bar when letters=2;bar when letters=4;").text();
            due(wrong, tell(x, wrong).text(), -1);
            tapeIsEmpty("a fault", x);
            due("lines", x.look(4), 2);
            due("bar", with(x, 0, "ab", 0), 0);
            due("may", with(x, 0, "abc", 0), 1);
            due("bar", with(x, 0, "abcd", 0), 0);
        }
        ByAlphabet y = new ByAlphabet();
        due("at first", tell(y, "may").text(), -1);
        due("no lines still", y.look(4), 0);
    }

    private static void fault(String text, int what, int place) {
        ByAlphabet x = new ByAlphabet();
        due("text of " + text, tell(x, text).text() < 0 ? 1 : 0, what == 0 ? 0 : 1);
        due("fault of " + text, x.fault(0), what);
        due("place in " + text, x.fault(1), place);
    }

    private static void fits(String text) {
        fault(text, 0, -1);
    }

    private static void keywords() {
        says("6, 7", "letters as many as stand together are KEYWORDS (those told here) or none");
        String[] facts = {"letters", "first", "last", "like", "abroad", "twice", "age", "coin", "sex", "worth"};
        for (String fact : facts) {
            fits("may when " + fact + "=" + fact + ";");
            fault("may when " + fact.substring(1) + "=1;", 1, 9);
            fault("may when " + fact.substring(0, fact.length() - 1) + "=1;", 1, 9);
            fault("may when 1=" + fact + "s;", 1, 11);
            fault("may when 1=" + fact + fact + ";", 1, 11);
            fault("may when 1=" + fact + "A;", 1, 11);
            fault("may when 1=" + fact + "Z;", 1, 11);
            fault("may when 1=Z" + fact + ";", 1, 11);
        }
        for (String wrong : new String[] {"ma", "mayy", "ba", "barr", "ay", "m", "maymay"}) {
            fault(wrong + ";", 1, 0);
        }
        for (String wrong : new String[] {"whe", "whenn", "hen", "whenwhen", "When"}) {
            fault("may " + wrong + " 1=1;", 1, 4);
        }
        for (String wrong : new String[] {"o", "orr", "an", "andd", "nd", "orand", "OR"}) {
            fault("may when 1=1 " + wrong + " 1=1;", 1, 13);
        }
        for (String wrong : new String[] {"no", "nott", "ot", "notnot", "Not"}) {
            fault("may when " + wrong + " 1=1;", 1, 9);
        }
    }

    private static void keywordsElsewhere() {
        says("6, 7", "1 what can't stand there");
        for (String word : new String[] {"may", "bar", "when", "or", "and"}) {
            fault("may when " + word + "=1;", 1, 9);
            fault("may when 1=" + word + ";", 1, 11);
            fault("may when 1+" + word + "=1;", 1, 11);
            fault("may when 1*" + word + "=1;", 1, 11);
            fault("may when 1/" + word + "=1;", 1, 11);
            fault("may when (" + word + "=1);", 1, 10);
            fault("may when not " + word + "=1;", 1, 13);
        }
        fault("may when 1=not 1;", 1, 11);
        fault("may when 1+not 1=1;", 1, 11);
        for (String word : new String[] {"or", "and", "not", "when", "letters", "worth", "1", "="}) {
            fault(word + ";", 1, 0);
            fault("may " + (word.equals("when") ? "bar" : word) + ";", 1, 4);
            fault("may when 1=1 " + (word.equals("or") || word.equals("and") ? "may" : word) + ";", 1, 13);
        }
    }

    private static void numbers() {
        says("6, 7", "digits as many as stand together NUMBERS of 1 to 4 digits or none");
        for (String number : new String[] {"0", "9", "10", "00", "999", "000", "9999", "0000", "0009"}) {
            fits("may when " + number + "=" + number + ";");
        }
        for (String number : new String[] {"10000", "00000", "00001", "99999", "123456", "4294967297", "0".repeat(300)}) {
            fault("may when " + number + "=1;", 1, 9);
            fault("may when 1=" + number + ";", 1, 11);
        }
        ByAlphabet x = new ByAlphabet();
        x.person(0, 9, 9999);
        due("leading zeros", tell(x, "may when age=0009 and coin=9999 and 0=0000;bar;").text(), 2);
        due("count for nothing", with(x, 0, "", 0), 1);
        fault("may when 12 34=1;", 1, 12);
    }

    private static void blanks() {
        says("6, 7", "Blanks (32, 10) between");
        fits("\n may \n when \n 1 \n = \n 1 \n ; \n");
        for (char sign : new char[] {0, 1, 8, 9, 11, 12, 13, 31, 33, 127, 128, 133, 160, 255}) {
            fault("may" + sign + ";", 1, 3);
            fault("may;" + sign, 1, 4);
            fault(sign + "may;", 1, 0);
        }
        for (char sign : "!\"#$%&',.:?@[\\]^_`{|}~".toCharArray()) {
            fault("may" + sign + ";", 1, 3);
        }
    }

    private static void tokensSideBySide() {
        says("6, 7", "letters, digits as many as stand together; Blanks between");
        fits("may;bar;");
        fits("may when(1=1)and(not(2=3)or 4<5);");
        fits("may when1=1or 2=2and not 3=3;");
        fits("may when age*2/3+coin-4>sex;");
        fault("may whenage=1;", 1, 4);
        fault("may when 1=1 or2=2 andnot 3=3;", 1, 19);
        fault("may when age coin=1;", 1, 13);
    }

    private static void faultAtEnd() {
        says("6, 7", "1 what can't stand there (the end: the text's length)");
        String[] begun = {"may", "bar", "may when", "may when 1", "may when 1=", "may when 1=1", "may when 1=1 and",
            "may when 1=1 or", "may when not", "may when (", "may when (1=1", "may when (1=1)", "may when age+",
            "may when age*", "may when age/", "may;bar when age<3"};
        for (String text : begun) {
            fault(text, 1, text.length());
            fault(text + " ", 1, text.length() + 1);
            fault(text + "\n \n", 1, text.length() + 3);
        }
        fault("may" + " ".repeat(397), 1, 400);
        fault(" ".repeat(397) + "may", 1, 400);
        fault(" ".repeat(399) + ";", 1, 399);
    }

    private static void faultOfPart() {
        says("6, 7", "2 (at the NUMBER) a part by 0");
        fault("may when 1/0=1;", 2, 11);
        fault("may when 1/00=1;", 2, 11);
        fault("may when 1/ \n0000=1;", 2, 13);
        fault("may when 1=age/2/3/0;", 2, 19);
        fault("may when 1=2*3+4/0;", 2, 17);
        fault("may when 1/00000=1;", 1, 11);
        fits("may when 1/1=1;");
        fits("may when 1/0001=0/9;");
        fits("may when 0*0=0-0;");
        fault("may when 1/age=1;", 1, 11);
        fault("may when 1/(1)=1;", 1, 11);
    }

    private static void faultOfLines() {
        says("6, 7", "3 (at its KEYWORD) the 17th line");
        fits("may;".repeat(16));
        fits("may;".repeat(16) + " \n ");
        fault("may;".repeat(16) + "may;", 3, 64);
        fault("may;".repeat(16) + "bar;", 3, 64);
        fault("may;".repeat(16) + " \n bar", 3, 67);
        fault("bar;".repeat(16) + "may when", 3, 64);
        fault("may;".repeat(20), 3, 64);
        fits("may when 1=1;".repeat(16));
        fault("may when 1=1;".repeat(17), 3, 208);
    }

    private static void faultOfOpenOnes() {
        says("6, 7", "3 (at it) the 9th ( or not that is open");
        for (int brackets = 0; brackets <= 8; brackets++) {
            String open = "(".repeat(brackets) + "not ".repeat(8 - brackets);
            String closed = ")".repeat(brackets);
            int place = 9 + open.length();
            fits("may when " + open + "1=1" + closed + ";");
            fault("may when " + open + "(1=1)" + closed + ";", 3, place);
            fault("may when " + open + "not 1=1" + closed + ";", 3, place);
            fault("may when " + open + "(", 3, place);
            fault("may when " + open + "not", 3, place);
            fault("may;may when " + open + "not", 3, place + 4);
        }
        fault("may when " + "(".repeat(391), 3, 17);
        fault("may when " + "not ".repeat(97), 3, 41);
        fits("may when " + "not(".repeat(4) + "1=1" + ")".repeat(4) + ";");
        fault("may when " + "not(".repeat(4) + "not 1=1" + ")".repeat(4) + ";", 3, 25);
    }

    private static void closedOnesAreNotOpen() {
        says("6, 7", "the 9th ( or not that is open");
        String deep = "(".repeat(8) + "1=1" + ")".repeat(8);
        String denied = "not ".repeat(8) + "1=1";
        fits("may when " + deep + " and " + deep + " or " + deep + ";");
        fits("may when " + denied + " and " + denied + " or " + denied + ";");
        fits("may when " + deep + ";bar when " + denied + ";may when " + deep + ";");
        fits("may when (" + "(1=1) and ".repeat(9) + "not 1=1);");
        // Behind not C that not is closed; behind the first ) seven are open still.
        fits("may when " + "(".repeat(7) + "not 1=1 and (1=1) or not 2=2" + ")".repeat(7) + ";");
        fault("may when " + "(".repeat(7) + "not 1=1 and (not 1=1)" + ")".repeat(7) + ";", 3, 29);
        fits("may when " + "(".repeat(8) + "1=1) and not 1=1" + ")".repeat(7) + ";");
        fault("may when " + "(".repeat(8) + "1=1) and not (1=1)" + ")".repeat(7) + ";", 3, 30);
    }

    private static void firstFaultByPlace() {
        says("6, 7", "FAULTS, the first by its place");
        fault("may when 1/0=;", 2, 11);
        fault("may when =1/0;", 1, 9);
        fault("may when 1/0=1/0;", 2, 11);
        fault("may when " + "(".repeat(8) + "1/0=1 and (", 2, 19);
        fault("may when " + "(".repeat(9) + "1/0=1", 3, 17);
        fault("may;".repeat(15) + "may when 1/0=1;may;", 2, 71);
        fault("may;".repeat(16) + "may when 1/0=1;", 3, 64);
        fault("may;".repeat(16) + "x may;", 1, 64);
        fault("may;".repeat(16) + "; may;", 1, 64);
        fault("may x;" + "may;".repeat(17), 1, 4);
    }

    private static void leastFaultAtOnePlace() {
        says("6, 7", "at one place the least");
        fault("may;".repeat(15) + "may may;", 1, 64);
        fault("may;".repeat(16) + "when", 1, 64);
        fault("may when " + "(".repeat(8) + "1(=1" + ")".repeat(8) + ";", 1, 18);
        fault("may when " + "(".repeat(8) + "1=not 1" + ")".repeat(8) + ";", 1, 19);
        fault("may when " + "(".repeat(8) + "1=1 not 1=1" + ")".repeat(8) + ";", 1, 21);
        fault("may when " + "(".repeat(8) + "1=1(" + ")".repeat(8) + ";", 1, 20);
        fault("may when 1=1 0;", 1, 13);
    }

    private static void latestText() {
        says("7", "Of the latest text(): what 0 the FAULT (0 without one), 1 its place (NONE)");
        ByAlphabet x = new ByAlphabet();
        due("without a text", x.fault(0), 0);
        due("its place", x.fault(1), -1);
        tell(x, ";").text();
        due("a fault", x.fault(0), 1);
        due("at place 0", x.fault(1), 0);
        tell(x, "may when 1/0=1;").text();
        due("the latest", x.fault(0), 2);
        due("its place", x.fault(1), 11);
        tell(x, "may;".repeat(17)).text();
        due("the latest", x.fault(0), 3);
        due("its place", x.fault(1), 64);
        x.image(true);
        tell(x, "x").person(0, 0, 0);
        tell(x, "??").sell();
        x.image(false);
        due("other calls are no text", x.fault(0), 3);
        due("its place", x.fault(1), 64);
        x.text();
        due("an empty text has none", x.fault(0), 0);
        due("nor a place", x.fault(1), -1);
        x.image(false);
        due("the image has none", x.fault(0), 0);
    }

    private static void otherFault() {
        says("7", "NONE for another what");
        ByAlphabet x = new ByAlphabet();
        for (int time = 0; time < 2; time++) {
            for (int what : new int[] {-1, 2, 3, -2, 10, LEAST, MOST}) {
                due("what " + what, x.fault(what), -1);
            }
            tell(x, "may when 2/0=1;").text();
        }
        due("still", x.fault(0), 2);
        due("still", x.fault(1), 11);
    }
}

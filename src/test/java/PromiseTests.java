/** Each promise of the document by hand: ordinary inputs, the edges it names, and wrong inputs. */
public final class PromiseTests extends Told {
    private PromiseTests() {
    }

    public static void main(String[] args) {
        p1newObject();
        p2state();
        p3letters();
        p3lettersKeep();
        p4feed();
        p5end();
        p6text();
        p6faults();
        p7fault();
        p8person();
        p9named();
        p10alphabet();
        p11set();
        p12site();
        p13chance();
        p14of();
        p14lawOfAbroad();
        p14lawOfTies();
        p15worth();
        p16expected();
        p17with();
        p17naming();
        p18sell();
        p19take();
        p20rest();
        p20circles();
        p21wed();
        p22voter();
        p23over();
        p24vote();
        p25circle();
        p26buy();
        p27harm();
        p28least();
        p29anew();
        p30years();
        p30born();
        p30votes();
        p31image();
        p32look();
        emptiesTape();
        finish();
    }

    private static void p1newObject() {
        says("1", "");
        ByAlphabet x = new ByAlphabet();
        due("NONE", ByAlphabet.NONE, -1);
        due("letters", x.look(0), 5);
        for (int what = 1; what <= 6; what++) {
            due("look " + what, x.look(what), 0);
        }
        same("the alphabet", alphabetOf(x), "abcde");
        int[] told = {0, 0, 1, 1, 1, 1, 0};
        for (int k = 0; k < 7; k++) {
            due("set " + k, x.look(20 + k), told[k]);
        }
        due("fault", x.fault(0), 0);
        due("its place", x.fault(1), -1);
        no("an image", x.image(false));
        due("the tape", fed(x), 20);
    }

    private static void p2state() {
        says("2", "");
        ByAlphabet x = new ByAlphabet();
        due("first", x.state(7), 0);
        due("then", x.state(MOST), 7);
        due("then", x.state(LEAST), MOST);
        due("look", x.look(6), LEAST);
        due("then", x.state(0), LEAST);
    }

    private static void p3letters() {
        says("3", "");
        ByAlphabet x = new ByAlphabet();
        for (int k : new int[] {1, 9, 0, -1, LEAST, MOST}) {
            no("letters " + k, x.letters(k));
        }
        due("still", x.look(0), 5);
        for (int k = 2; k <= 8; k++) {
            yes("letters " + k, x.letters(k));
            due("told", x.look(0), k);
            same("alphabet", alphabetOf(x), "abcdefgh".substring(0, k));
        }
        tell(x, "hgfedcba").alphabet();
        tell(x, "a").person(0, 0, 0);
        no("letters 9", x.letters(9));
        due("people stay", x.look(1), 1);
        same("alphabet stays", alphabetOf(x), "hgfedcba");
    }

    private static void p3lettersKeep() {
        says("3", "");
        ByAlphabet x = new ByAlphabet();
        tell(x, "abcde").chance(2, 9);
        tell(x, "abcde").voter(1, 1);
        tell(x, "a").sell();
        tell(x, "bar;").text();
        tell(x, "may what;").text();
        tell(x, "ba").person(0, 0, 0);
        x.site(3, 0, 50, 1, 5);
        for (int k = 0; k < 7; k++) {
            x.set(k, 2);
        }
        x.years(3);
        x.state(77);
        tell(x, "ecabd").alphabet();
        x.image(true);
        tell(x, "abc");
        yes("the same K once more", x.letters(5));
        due("STATE stays", x.look(6), 77);
        due("fault stays", x.fault(0), 1);
        due("its place stays", x.fault(1), 4);
        for (int what = 1; what <= 5; what++) {
            due("look " + what, x.look(what), 0);
        }
        int[] told = {0, 0, 1, 1, 1, 1, 0};
        for (int k = 0; k < 7; k++) {
            due("set " + k, x.look(20 + k), told[k]);
        }
        same("alphabet", alphabetOf(x), "abcde");
        due("the tape stays", x.person(1, 2, 3), 0);
        same("as it was", nameOf(x, 0), "abc");
        due("sites are as at first", x.worth(0, -1), 0);
        due("chances are as at first", x.worth(0, 2), NO_SUCH);
        tell(x, "ab");
        due("naming is as at first", x.with(0, 0), 1);
        yes("the image stays", x.image(false));
        due("people again", x.look(1), 1);
        due("worth again", x.worth(0, -1), 50);
    }

    private static void p4feed() {
        says("4", "");
        ByAlphabet x = new ByAlphabet();
        due("twenty", x.feed(0x61626364, 0x65666768, 0x696a6b6c, 0x6d6e6f70, 0x71727374), 20);
        x.end(6);
        due("six of them", x.person(0, 0, 0), 0);
        same("the highest first", nameOf(x, 0), "abcdef");
        x.feed(0x20202061, 0, 0, 0, 0x62202020);
        x.end(0);
        for (int i = 1; i <= 20; i++) {
            due("feed " + i, fed(x), 20 * i);
        }
        due("no more", fed(x), -1);
        no("401", x.end(401));
        yes("400", x.end(400));
        yes("381", x.end(381));
        due("there would be 401", fed(x), -1);
        yes("still 381", x.end(381));
        no("not more", x.end(382));
        yes("380", x.end(380));
        due("400 again", fed(x), 400);
        x.end(0);
        x.feed(0x61626364, 0x61626364, 0x61626364, 0x61626364, 0x61626364);
        x.end(3);
        due("behind the tape", x.feed(0x7a202020, 0, 0, 0, 0), 23);
        x.end(4);
        due("name", x.person(0, 0, 0), 1);
        same("behind", nameOf(x, 1), "abcz");
        x.feed(0xff808182, -1, -1, -1, -1);
        x.end(1);
        due("byte 255 is no letter", x.person(0, 0, 0), -1);
    }

    private static void p5end() {
        says("5", "");
        ByAlphabet x = new ByAlphabet();
        yes("0 of none", x.end(0));
        no("1 of none", x.end(1));
        no("-1", x.end(-1));
        fed(x);
        no("21", x.end(21));
        no("least", x.end(LEAST));
        no("most", x.end(MOST));
        yes("20", x.end(20));
        due("changed nothing", fed(x), 40);
        yes("7", x.end(7));
        no("8", x.end(8));
        due("7 and 20", fed(x), 27);
        yes("0", x.end(0));
        due("20", fed(x), 20);
    }

    private static void p6text() {
        says("6", "");
        ByAlphabet x = people(5, "ab");
        due("empty", x.text(), 0);
        due("two lines", tell(x, "may when letters<3;\n bar ;").text(), 2);
        due("lines", x.look(4), 2);
        due("the tape is empty", fed(x), 20);
        x.end(0);
        due("a fault", tell(x, "may;may").text(), -1);
        due("the tape is empty", fed(x), 20);
        x.end(0);
        due("as it was", x.look(4), 2);
        tell(x, "abc");
        due("bar still", x.with(0, 0), 0);
        tell(x, "ab");
        due("may still", x.with(0, 0), 1);
        due("sixteen lines", tell(x, "may;".repeat(16)).text(), 16);
        due("none", x.text(), 0);
        due("none told", x.look(4), 0);
        due("blanks alone", tell(x, " \n ").text(), 0);
    }

    private static void fault(String text, int what, int place) {
        ByAlphabet x = new ByAlphabet();
        due("text " + text, tell(x, text).text() < 0 ? 1 : 0, what == 0 ? 0 : 1);
        due("fault of " + text, x.fault(0), what);
        due("place in " + text, x.fault(1), place);
    }

    private static void p6faults() {
        says("6, 7", "");
        fault("may", 1, 3);
        fault("may  ", 1, 5);
        fault("may when", 1, 8);
        fault("may when;", 1, 8);
        fault("when 1=1;", 1, 0);
        fault(";", 1, 0);
        fault("mays;", 1, 0);
        fault("maybar;", 1, 0);
        fault("may;Bar;", 1, 4);
        fault("mayA;", 1, 0);
        fault("Amay;", 1, 0);
        fault("maY;", 1, 0);
        fault("MAY;", 1, 0);
        fault("may A;", 1, 4);
        fault("may whenZ 1=1;", 1, 4);
        fault("may when ageZage=1;", 1, 9);
        fault("may when 1=1A;", 1, 12);
        fault("may when 1=A1;", 1, 11);
        fault("may when 2/0A=1;", 2, 11);
        fault("may when 2/A0=1;", 1, 11);
        fault("may when not not notA", 1, 17);
        fault("may when " + "not ".repeat(8) + "notA 1=1;", 1, 41);
        fault("may;".repeat(16) + "barB;", 1, 64);
        // The signs beside the capitals and beside the small letters are no letters.
        fault("may@;", 1, 3);
        fault("may[;", 1, 3);
        fault("may`;", 1, 3);
        fault("may{;", 1, 3);
        fault("may\u00c4;", 1, 3);
        fault("may; #", 1, 5);
        fault("may\t;", 1, 3);
        fault("may when 1;", 1, 10);
        fault("may when 1=;", 1, 11);
        fault("may when 1=1=1;", 1, 12);
        fault("may when 1<>2;", 1, 11);
        fault("may when not;", 1, 12);
        fault("may when 1=1 or;", 1, 15);
        fault("may when (1=1;", 1, 13);
        fault("may when 1=1);", 1, 12);
        fault("may when (1+1)=2;", 1, 13);
        fault("may when 1=(1);", 1, 11);
        fault("may when -1=1;", 1, 9);
        fault("may when 2*=1;", 1, 11);
        fault("may when 2/age=1;", 1, 11);
        fault("may when 2/0=1;", 2, 11);
        fault("may when 2/0000=1;", 2, 11);
        fault("may when 2 / 00;", 2, 13);
        fault("may when 2/00000=1;", 1, 11);
        fault("may when 2/01=1;", 0, -1);
        fault("may when 2*0=0;", 0, -1);
        fault("may when 9999=0001;", 0, -1);
        fault("may when 10000=1;", 1, 9);
        fault("may when 1=12 3;", 1, 14);
        fault("may when age1=1;", 1, 12);
        fault("may when 1age=1;", 1, 10);
        fault("may when worth=1 and coin>2*age-sex/3 or twice<1;", 0, -1);
        fault("may;".repeat(16) + "bar;", 3, 64);
        fault("may;".repeat(16) + " bar", 3, 65);
        fault("may;".repeat(16) + "or", 1, 64);
        fault("may;".repeat(17), 3, 64);
        fault("may when " + "(".repeat(8) + "1=1" + ")".repeat(8) + ";", 0, -1);
        fault("may when " + "(".repeat(9) + "1=1" + ")".repeat(9) + ";", 3, 17);
        fault("may when " + "not ".repeat(8) + "1=1;", 0, -1);
        fault("may when " + "not ".repeat(9) + "1=1;", 3, 41);
        fault("may when " + "(not ".repeat(4) + "1=1" + ")".repeat(4) + ";", 0, -1);
        fault("may when " + "(not ".repeat(4) + "(1=1" + ")".repeat(5) + ";", 3, 29);
        fault("may when " + "not 1=1 and ".repeat(9) + "not (1=1);", 0, -1);
        fault("may when " + "(1=1) or ".repeat(10) + "(not 1=1);", 0, -1);
        fault("may when 1/0=1 or;", 2, 11);
        fault("may;bar when " + "(".repeat(12), 3, 21);
        fault("may when 1(=1;", 1, 10);
        fault("may\nwhen\n1 = 1\n;", 0, -1);
        fault(";".repeat(400), 1, 0);
        fault("bar when " + "1+".repeat(195) + "1", 1, 400);
        fault("bar when 1" + "+1".repeat(193) + "=1;" + " ", 0, -1);
        fault(" ".repeat(400), 0, -1);
    }

    private static void p7fault() {
        says("7", "");
        ByAlphabet x = new ByAlphabet();
        due("before", x.fault(0), 0);
        due("its place", x.fault(1), -1);
        tell(x, "bar or").text();
        due("fault", x.fault(0), 1);
        due("its place", x.fault(1), 4);
        due("2", x.fault(2), -1);
        due("-1", x.fault(-1), -1);
        due("most", x.fault(MOST), -1);
        due("still", x.fault(0), 1);
        tell(x, "bar;").text();
        due("without one", x.fault(0), 0);
        due("its place", x.fault(1), -1);
    }

    private static void p8person() {
        says("8", "");
        ByAlphabet x = new ByAlphabet();
        due("no letters", x.person(1, 99, 9999), 0);
        due("six", tell(x, "zzzzzz").person(0, 0, 0), 1);
        due("seven", tell(x, "aaaaaaa").person(0, 0, 0), -1);
        due("the tape is empty", fed(x), 20);
        x.end(0);
        due("capital", tell(x, "aB").person(0, 0, 0), -1);
        due("first capital", tell(x, "A").person(0, 0, 0), -1);
        due("last capital", tell(x, "Z").person(0, 0, 0), -1);
        due("blank", tell(x, "a ").person(0, 0, 0), -1);
        due("`", tell(x, "`").person(0, 0, 0), -1);
        due("{", tell(x, "{").person(0, 0, 0), -1);
        due("sex 2", x.person(2, 0, 0), -1);
        due("sex -1", x.person(-1, 0, 0), -1);
        due("age 100", x.person(0, 100, 0), -1);
        due("age -1", x.person(0, -1, 0), -1);
        due("coin 10000", x.person(0, 0, 10000), -1);
        due("coin -1", x.person(0, 0, -1), -1);
        due("two", x.look(1), 2);
        due("sex", x.of(0, 0), 1);
        due("age", x.of(0, 1), 99);
        due("coin", x.of(0, 2), 9999);
        for (int p = 2; p < 20; p++) {
            due("person", x.person(0, 0, 0), p);
        }
        due("the 21st", tell(x, "a").person(0, 0, 0), -1);
        due("twenty", x.look(1), 20);
        due("the tape is empty", fed(x), 20);
    }

    private static void p9named() {
        says("9", "");
        ByAlphabet x = people(5, "a", "b");
        tell(x, "bar;").text();
        yes("whether one may or not", tell(x, "cx").named(1));
        same("name", nameOf(x, 1), "cx");
        same("the other", nameOf(x, 0), "a");
        no("none such", tell(x, "d").named(2));
        due("the tape is empty", fed(x), 20);
        x.end(0);
        no("-1", tell(x, "d").named(-1));
        no("most", tell(x, "d").named(MOST));
        no("no name", tell(x, "d1").named(0));
        no("too long", tell(x, "ddddddd").named(0));
        same("as it was", nameOf(x, 0), "a");
        yes("no letters", x.named(0));
        same("none", nameOf(x, 0), "");
        due("the list goes by it", x.of(0, 4), 0);
    }

    private static void p10alphabet() {
        says("10", "");
        ByAlphabet x = people(3, "a", "b", "c");
        yes("told", tell(x, "cab").alphabet());
        same("alphabet", alphabetOf(x), "cab");
        same("list", listOf(x), "201");
        for (String wrong : new String[] {"", "ab", "abca", "aab", "abd", "ABC", "abc "}) {
            no("'" + wrong + "'", tell(x, wrong).alphabet());
            due("the tape is empty", fed(x), 20);
            x.end(0);
        }
        same("as it was", alphabetOf(x), "cab");
    }

    private static void p11set() {
        says("11", "");
        int[] least = {0, 0, 0, 0, 0, 1, 0};
        int[] most = {2, 2, 99, 99, 99, 99, 2};
        ByAlphabet x = new ByAlphabet();
        for (int what = 0; what < 7; what++) {
            yes("most", x.set(what, most[what]));
            no("more", x.set(what, most[what] + 1));
            due("told", x.look(20 + what), most[what]);
            yes("least", x.set(what, least[what]));
            no("less", x.set(what, least[what] - 1));
            no("far less", x.set(what, LEAST));
            due("told", x.look(20 + what), least[what]);
        }
        for (int what : new int[] {-1, 7, 20, LEAST, MOST}) {
            no("what " + what, x.set(what, 1));
        }
    }

    private static void p12site() {
        says("12", "");
        ByAlphabet x = people(5, "a");
        yes("edges", x.site(5, 1, 99, 99, 20));
        due("worth", x.worth(0, -1), 99);
        yes("edges", x.site(0, 0, -99, 0, 1));
        due("worth", x.worth(0, -1), 0);
        no("site -1", x.site(-1, 0, 1, 0, 1));
        no("site 6", x.site(6, 0, 1, 0, 1));
        no("side -1", x.site(0, -1, 1, 0, 1));
        no("side 2", x.site(0, 2, 1, 0, 1));
        no("first -100", x.site(0, 0, -100, 0, 1));
        no("first 100", x.site(0, 0, 100, 0, 1));
        no("less -1", x.site(0, 0, 1, -1, 1));
        no("less 100", x.site(0, 0, 1, 100, 1));
        no("many -1", x.site(0, 0, 1, 0, -1));
        no("many 21", x.site(0, 0, 1, 0, 21));
        due("as it was", x.worth(0, -1), 0);
        yes("anew", x.site(0, 0, 1, 0, 1));
        due("worth", x.worth(0, -1), 100);
    }

    private static void p13chance() {
        says("13", "");
        ByAlphabet x = people(2, "a", "b");
        x.site(0, 0, 10, 10, 2);
        yes("told", tell(x, "ba").chance(5, 99));
        due("worth", x.worth(1, 5), 10);
        no("-1", tell(x, "ab").chance(-1, 1));
        no("6", tell(x, "ab").chance(6, 1));
        no("weight -1", tell(x, "ab").chance(5, -1));
        no("weight 100", tell(x, "ab").chance(5, 100));
        no("no order", tell(x, "aa").chance(5, 1));
        no("none", x.chance(5, 1));
        due("as it was", x.worth(1, 5), 10);
        due("weight as it was", x.expected(1, 1), 1);
        yes("weight 0", tell(x, "ab").chance(5, 0));
        due("told anew", x.worth(1, 5), 0);
        due("the tape is empty", fed(x), 20);
    }

    private static void p14of() {
        says("14", "");
        ByAlphabet x = new ByAlphabet();
        tell(x, "bazxyz").person(1, 33, 44);
        int[] due = {1, 33, 44, 6, 0};
        for (int what = 0; what < 5; what++) {
            due("of " + what, x.of(0, what), due[what]);
        }
        int[] letters = {1, 0, 25, 23, 24, 25};
        for (int k = 0; k < 6; k++) {
            due("letter " + k, x.of(0, 10 + k), letters[k]);
        }
        for (int what : new int[] {-1, 5, 9, 16, 17, 30, LEAST, MOST}) {
            due("what " + what, x.of(0, what), NO_SUCH);
        }
        for (int p : new int[] {-1, 1, 20, LEAST, MOST}) {
            due("who " + p, x.of(p, 0), NO_SUCH);
        }
        tell(x, "c").person(0, 0, 0);
        due("letter 1 of c", x.of(1, 11), NO_SUCH);
        due("place", x.of(1, 4), 1);
        same("letter by letter", listOf(people(3, "b", "ab", "a", "abc", "", "aa", "ba")), "4251306");
    }

    private static void p14lawOfAbroad() {
        says("14", "");
        ByAlphabet x = people(2, "b", "xa", "a", "xb", "c", "bx", "ax", "y", "");
        same("behind", listOf(x), "826054137");
        x.set(0, 1);
        same("ahead", listOf(x), "841372605");
        x.set(0, 2);
        same("left out", listOf(x), "478126035");
        tell(x, "ba").alphabet();
        same("left out, by ba", listOf(x), "478035126");
        x.set(0, 0);
        same("behind, by ba", listOf(x), "805264317");
        ByAlphabet y = people(2, "a", "z", "c", "b");
        same("z behind", listOf(y), "0321");
        y.set(0, 1);
        same("z ahead", listOf(y), "2103");
    }

    private static void p14lawOfTies() {
        says("14", "");
        ByAlphabet x = new ByAlphabet();
        tell(x, "a").person(0, 10, 5);
        tell(x, "a").person(0, 30, 5);
        tell(x, "a").person(0, 10, 9);
        tell(x, "a").person(0, 30, 1);
        same("number", listOf(x), "0123");
        x.set(1, 1);
        same("age", listOf(x), "1302");
        x.set(1, 2);
        same("coin", listOf(x), "2013");
        tell(x, "").named(3);
        same("names first", listOf(x), "3201");
    }

    private static void p15worth() {
        says("15", "");
        ByAlphabet x = people(3, "a", "b", "c", "d");
        x.site(0, 0, 10, 4, 4);
        int[] front = {10, 6, 2, 0};
        for (int p = 0; p < 4; p++) {
            due("front", x.worth(p, -1), front[p]);
        }
        x.site(0, 1, 10, 4, 3);
        int[] back = {0, 2, 6, 10};
        for (int p = 0; p < 4; p++) {
            due("back", x.worth(p, -1), back[p]);
        }
        x.site(0, 0, -10, 4, 20);
        int[] harm = {-10, -6, -2, 0};
        for (int p = 0; p < 4; p++) {
            due("below 0", x.worth(p, -1), harm[p]);
        }
        x.site(1, 0, 7, 0, 2);
        x.site(2, 1, 0, 5, 4);
        int[] all = {-3, 1, -2, 0};
        for (int p = 0; p < 4; p++) {
            due("added", x.worth(p, -1), all[p]);
        }
        tell(x, "cba").chance(0, 0);
        due("by a chance", x.worth(2, 0), -3);
        due("by the alphabet", x.worth(2, -1), -2);
        for (int i : new int[] {-2, 1, 5, 6, LEAST, MOST}) {
            due("order " + i, x.worth(0, i), NO_SUCH);
        }
        for (int p : new int[] {-1, 4, 20, LEAST, MOST}) {
            due("who " + p, x.worth(p, -1), NO_SUCH);
        }
    }

    private static void p16expected() {
        says("16", "");
        ByAlphabet x = people(2, "a", "b");
        due("all 0, above", x.expected(0, 0), 0);
        due("all 0, below", x.expected(0, 1), 0);
        x.site(0, 0, 9, 3, 2);
        tell(x, "ab").chance(0, 0);
        due("weight 0, above", x.expected(0, 0), 0);
        due("weight 0, below", x.expected(0, 1), 0);
        tell(x, "ab").chance(1, 2);
        tell(x, "ba").chance(4, 4);
        due("(18 + 24) of 6 above", x.expected(0, 0), 7);
        due("(18 + 24) of 6 below", x.expected(0, 1), 1);
        tell(x, "ba").chance(4, 5);
        due("48 of 7 above", x.expected(0, 0), 48);
        due("48 of 7 below", x.expected(0, 1), 7);
        x.site(0, 0, -9, 3, 2);
        tell(x, "ba").chance(4, 4);
        due("-42 of 6 above", x.expected(0, 0), -7);
        due("-42 of 6 below", x.expected(0, 1), 1);
        x.site(0, 0, -9, 9, 2);
        due("-18 of 6 above", x.expected(0, 0), -3);
        due("-36 of 6 above", x.expected(1, 0), -6);
        tell(x, "ba").chance(1, 0);
        due("sum 0 above", x.expected(0, 0), 0);
        due("sum 0 below", x.expected(0, 1), 1);
        due("what 2", x.expected(0, 2), NO_SUCH);
        due("what -1", x.expected(0, -1), NO_SUCH);
        due("who 2", x.expected(2, 0), NO_SUCH);
        due("who -1", x.expected(-1, 0), NO_SUCH);
    }

    private static void p17with() {
        says("17", "");
        ByAlphabet x = people(5, "bad", "c", "a");
        x.site(0, 0, 50, 20, 3);
        x.set(2, 7);
        x.set(3, 2);
        x.set(4, 3);
        due("the same", with(x, 0, "bad", 1), 0);
        due("change or drop and take", with(x, 0, "ead", 1), 5);
        due("take", with(x, 0, "bard", 1), 2);
        due("drop", with(x, 0, "ad", 1), 3);
        due("all dropped", with(x, 0, "", 1), 9);
        due("from c", with(x, 1, "abcabc", 1), 10);
        x.set(2, 4);
        due("changed", with(x, 0, "ead", 1), 4);
        due("changed all", with(x, 0, "eee", 1), 12);
        x.set(2, 0);
        due("for nothing", with(x, 0, "eee", 1), 0);
        x.set(2, 4);
        x.set(5, 3);
        due("worth of c", x.worth(1, -1), 10);
        due("worth as aa", with(x, 1, "aa", 3), 30);
        due("worth as a", with(x, 1, "a", 3), 50);
        due("gain as aa", with(x, 1, "aa", 2), 3 * 20 - 6);
        due("gain as a", with(x, 1, "a", 2), 3 * 40 - 4);
        due("loss", with(x, 2, "e", 2), 3 * -40 - 4);
        due("nothing is done", x.worth(1, -1), 10);
        same("name", nameOf(x, 1), "c");
        due("no name", with(x, 0, "a-", 0), NO_SUCH);
        due("too long", with(x, 0, "aaaaaaa", 0), NO_SUCH);
        for (int what : new int[] {-1, 4, LEAST, MOST}) {
            due("what " + what, with(x, 0, "a", what), NO_SUCH);
            due("the tape is empty", fed(x), 20);
            x.end(0);
        }
        due("who 3", with(x, 3, "a", 0), NO_SUCH);
        due("who -1", with(x, -1, "a", 0), NO_SUCH);
        due("may, without naming", with(x, 0, "xyz", 0), 1);
    }

    /** Whether one with a name, a sex, an age and coin may have another by a condition. */
    private static void may(String condition, String now, String next, int due) {
        ByAlphabet x = new ByAlphabet();
        x.site(0, 0, 40, 0, 1);
        tell(x, "edcba").alphabet();
        tell(x, now).person(1, 70, 1234);
        due("text of " + condition, tell(x, "may when " + condition + ";bar;").text(), 2);
        due(condition + " from " + now + " to " + next, with(x, 0, next, 0), due);
    }

    private static void p17naming() {
        says("17", "");
        may("letters=3", "a", "abc", 1);
        may("letters=0", "a", "", 1);
        may("first=0", "a", "eab", 1);
        may("first=5", "a", "za", 1);
        may("first=6", "a", "", 1);
        may("last=4", "a", "cba", 1);
        may("last=5", "a", "abz", 1);
        may("last=6", "a", "", 1);
        may("like=2", "abc", "abd", 1);
        may("like=0", "abc", "bbc", 1);
        may("like=3", "abc", "abcd", 1);
        may("abroad=2", "a", "faz", 1);
        may("twice=1", "a", "aba", 1);
        may("twice=0", "a", "abc", 1);
        may("twice=1", "a", "zabz", 1);
        may("age=70", "a", "b", 1);
        may("coin=1234", "a", "b", 1);
        may("sex=1", "a", "b", 1);
        may("worth=40", "a", "b", 1);
        may("1<1", "a", "b", 0);
        may("1>0", "a", "b", 1);
        may("1=2 or 2=2 and 3=4", "a", "b", 0);
        may("2=2 or 2=2 and 3=4", "a", "b", 1);
        may("(2=2 or 2=2) and 3=4", "a", "b", 0);
        may("1=2 and 1=2 or 1=1", "a", "b", 1);
        may("1=1 or 1=2 or 1=2", "a", "b", 1);
        may("not 1=2 and 1=2", "a", "b", 0);
        may("not (1=2 and 1=2)", "a", "b", 1);
        may("not not 1=1", "a", "b", 1);
        may("2+3*4=14", "a", "b", 1);
        may("2*3+4=10", "a", "b", 1);
        may("9-3-2=4", "a", "b", 1);
        may("9-3+2=8", "a", "b", 1);
        may("20/3*3=18", "a", "b", 1);
        may("2*7/4=3", "a", "b", 1);
        may("1-8/3=1-2", "a", "b", 1);
        may("9999*9999*9999*9999<0", "a", "b", 9999 * 9999 * 9999 * 9999 < 0 ? 1 : 0);
        may("9999*9999*9999=9999*9999*9999/1", "a", "b", 1);
        may("9999*9999*9999/1000>0", "a", "b", 9999 * 9999 * 9999 / 1000 > 0 ? 1 : 0);
        ByAlphabet x = people(5, "a");
        x.site(0, 0, -7, 0, 1);
        tell(x, "bar when worth/2=0-3;may;").text();
        due("/ goes towards 0", with(x, 0, "b", 0), 0);
        tell(x, "bar when letters>2;may when letters>1;bar when letters>0;").text();
        due("first line", with(x, 0, "abc", 0), 0);
        due("second line", with(x, 0, "ab", 0), 1);
        due("third line", with(x, 0, "b", 0), 0);
        due("no line", with(x, 0, "", 0), 1);
        tell(x, "may;bar;").text();
        due("the first without one", with(x, 0, "b", 0), 1);
    }

    private static void p18sell() {
        says("18", "");
        ByAlphabet x = new ByAlphabet();
        due("no letters", x.sell(), 0);
        due("six", tell(x, "abzxyz").sell(), 1);
        due("seven", tell(x, "abcdefg").sell(), -1);
        due("no name", tell(x, "a1").sell(), -1);
        due("the tape is empty", fed(x), 20);
        x.end(0);
        due("the same again", tell(x, "abzxyz").sell(), 2);
        for (int i = 3; i < 10; i++) {
            due("sell", tell(x, "a").sell(), i);
        }
        due("the eleventh", tell(x, "a").sell(), -1);
        due("ten", x.look(2), 10);
        due("the tape is empty", fed(x), 20);
    }

    private static void p19take() {
        says("19", "");
        ByAlphabet x = new ByAlphabet();
        tell(x, "abc").person(0, 20, 5);
        tell(x, "b").person(0, 30, 1);
        tell(x, "bcd").sell();
        tell(x, "zz").sell();
        x.set(2, 9);
        x.set(3, 2);
        x.set(4, 3);
        tell(x, "bar when abroad>0;").text();
        due("may not", x.take(0, 1), -1);
        due("too dear", x.take(1, 0), -1);
        due("as it was", x.of(1, 2), 1);
        due("taken", x.take(0, 0), 5);
        same("name", nameOf(x, 0), "bcd");
        due("paid", x.of(0, 2), 0);
        due("once more, for nothing", x.take(0, 0), 0);
        due("no such name", x.take(0, 2), -1);
        due("-1", x.take(0, -1), -1);
        due("who", x.take(2, 0), -1);
        due("-1", x.take(-1, 0), -1);
        due("most", x.take(MOST, MOST), -1);
        x.site(0, 0, -10, 0, 20);
        x.years(1);
        due("below 0", x.of(0, 2), -10);
        due("no coin for nothing", x.take(0, 0), -1);
    }

    private static void p20rest() {
        says("20", "");
        ByAlphabet x = people(5, "c", "d", "e");
        x.site(0, 0, 10, 5, 2);
        due("no market", x.rest(0), 0);
        due("no circle", x.rest(1), 0);
        due("none taken", x.rest(2), 0);
        tell(x, "a").sell();
        tell(x, "b").sell();
        // d and e take a, of a and b that gain alike the first; then c, behind both, takes it and is ahead by number
        due("rounds", x.rest(0), 2);
        due("taken", x.rest(2), 3);
        same("in thought", nameOf(x, 0), "c");
        due("coin is not needed", x.of(0, 2), 0);
        tell(x, "bar when like=0;").text();
        due("nobody may", x.rest(0), 0);
        x.text();
        x.set(2, 99);
        x.set(3, 99);
        x.set(4, 99);
        due("nobody gains", x.rest(2), 0);
        x.set(5, 99);
        due("many years", x.rest(2) > 0 ? 1 : 0, 1);
        for (int what : new int[] {-1, 3, LEAST, MOST}) {
            due("what " + what, x.rest(what), -1);
        }
        ByAlphabet y = people(5, "b", "c");
        y.site(0, 0, 9, 0, 1);
        tell(y, "a").sell();
        tell(y, "a").sell();
        due("c takes it, then b", y.rest(2), 2);
        due("in two rounds", y.rest(0), 2);
        due("a gain of 0 is none", people(5, "b").rest(2), 0);
        ByAlphabet z = people(5, "c", "b");
        z.site(0, 0, 1, 0, 1);
        tell(z, "a").sell();
        due("gain 0 is not above 0", z.rest(2), 0);
        z.set(5, 2);
        due("gain 1 is", z.rest(2), 1);
    }

    private static void p20circles() {
        says("20", "");
        ByAlphabet x = people(5, "dd", "ece", "bc", "ee");
        x.site(0, 0, 94, 15, 3);
        x.site(1, 1, 93, 17, 2);
        x.set(2, 3);
        x.set(3, 3);
        for (String name : new String[] {"ce", "eca", "ea", "ea", "dad", "bb", "d", "c", "bd"}) {
            tell(x, name).sell();
        }
        due("neither by 40", x.rest(0), -1);
        due("no circle", x.rest(1), 0);
        due("taken in 40", x.rest(2), 91);
        ByAlphabet y = people(5, "c", "ea", "ea", "cdd", "e");
        y.site(0, 0, -15, 20, 4);
        y.site(1, 1, -79, 8, 1);
        y.set(2, 3);
        y.set(3, 2);
        y.set(4, 2);
        for (String name : new String[] {"cee", "dab", "cda", "ca", "abc", "c", "e", "aea", "b", "cce"}) {
            tell(y, name).sell();
        }
        due("rounds", y.rest(0), 38);
        due("taken", y.rest(2), 68);
        ByAlphabet z = people(5, "ae", "ea", "e", "b");
        z.site(0, 0, -45, 6, 3);
        z.site(1, 1, -18, 12, 1);
        z.site(2, 0, 16, 21, 1);
        z.site(3, 0, -76, 6, 2);
        z.site(4, 0, 87, 20, 3);
        z.set(2, 3);
        z.set(3, 0);
        z.set(4, 2);
        for (String name : new String[] {"a", "ed", "b", "b", "cc", "ae", "cb", "bca"}) {
            tell(z, name).sell();
        }
        due("no rest", z.rest(0), -1);
        due("a circle", z.rest(1), 12);
        due("taken", z.rest(2), 78);
        // From ba all go to ce, and come back to that in three rounds more; from ce the circle begins at once.
        circleOfThree("ba", 10);
        circleOfThree("ce", 6);
    }

    private static void circleOfThree(String name, int taken) {
        ByAlphabet x = people(5, name, name, name, name);
        x.site(0, 1, 12, 0, 2);
        x.site(1, 1, -9, 2, 3);
        for (int what = 2; what < 5; what++) {
            x.set(what, 0);
        }
        tell(x, "ce").sell();
        tell(x, "ba").sell();
        due("no rest", x.rest(0), -1);
        due("a circle of three", x.rest(1), 3);
        due("taken", x.rest(2), taken);
        same("in thought", nameOf(x, 0), name);
    }

    private static void p21wed() {
        says("21", "");
        ByAlphabet x = made(8);
        x.site(0, 0, 40, 10, 5);
        int[] sex = {0, 1, 1, 0, 0, 1, 0};
        String[] names = {"d", "b", "a", "c", "e", "g", "h"};
        for (int p = 0; p < sex.length; p++) {
            tell(x, names[p]).person(sex[p], 0, 0);
        }
        int[] with = {1, 0, 3, 2, 5, 4, -1};
        int[] whose = {1, 1, 2, 2, 4, 4, -1};
        int[] price = {20, 20, 20, 20, 0, 0, 0};
        for (int p = 0; p < 7; p++) {
            due("with whom " + p, x.wed(p, 0), with[p]);
            due("whose name " + p, x.wed(p, 1), whose[p]);
            due("price " + p, x.wed(p, 2), price[p]);
        }
        for (int what : new int[] {-1, 3, LEAST, MOST}) {
            due("what " + what, x.wed(0, what), NO_SUCH);
        }
        for (int p : new int[] {-1, 7, LEAST, MOST}) {
            due("who " + p, x.wed(p, 0), NO_SUCH);
        }
        x.site(0, 0, 0, 0, 0);
        int[] byNumber = {1, 0, 3, 2, 5, 4, -1};
        for (int p = 0; p < 7; p++) {
            due("all alike, by number " + p, x.wed(p, 0), byNumber[p]);
        }
        due("of sex 0, if alike", x.wed(1, 1), 0);
        due("nobody to ask", people(5, "a").wed(0, 0), -1);
    }

    private static void p22voter() {
        says("22", "");
        ByAlphabet x = made(3);
        due("first", tell(x, "cab").voter(9, 999), 0);
        due("second", tell(x, "abc").voter(1, 0), 1);
        due("weight 0", tell(x, "abc").voter(0, 0), -1);
        due("weight 10", tell(x, "abc").voter(10, 0), -1);
        due("price -1", tell(x, "abc").voter(1, -1), -1);
        due("price 1000", tell(x, "abc").voter(1, 1000), -1);
        due("no order", tell(x, "abb").voter(1, 1), -1);
        due("no order", tell(x, "abcd").voter(1, 1), -1);
        due("the tape is empty", fed(x), 20);
        x.end(0);
        due("two", x.look(3), 2);
        for (int i = 2; i < 12; i++) {
            due("voter", tell(x, "abc").voter(1, 1), i);
        }
        due("the 13th", tell(x, "abc").voter(1, 1), -1);
        due("twelve", x.look(3), 12);
        due("over", x.over(2, 0), 9);
        due("over", x.over(0, 2), 11);
    }

    private static void p23over() {
        says("23", "");
        ByAlphabet x = voters(4, "abcd", "3", "0", "dcba", "2", "0", "bdac", "4", "0");
        due("a over b", x.over(0, 1), 3);
        due("b over a", x.over(1, 0), 6);
        due("a over c", x.over(0, 2), 7);
        due("c over a", x.over(2, 0), 2);
        due("d over c", x.over(3, 2), 6);
        due("the same", x.over(1, 1), -1);
        for (int a : new int[] {-1, 4, LEAST, MOST}) {
            due("letter " + a, x.over(a, 0), -1);
            due("over letter " + a, x.over(0, a), -1);
        }
    }

    private static void p24vote() {
        says("24", "");
        ByAlphabet none = made(4);
        tell(none, "dbca").alphabet();
        for (int rule = 0; rule < 3; rule++) {
            same("without voters", voteOf(none, rule), "dbca");
        }
        ByAlphabet x = voters(4, "abcd", "5", "0", "bcda", "4", "0", "dcba", "2", "0");
        // a 15, b 5*2+4*3+2 = 24, c 5+8+4 = 17, d 4+6 = 10
        same("points", voteOf(x, 0), "bcad");
        // b beats a (6:5), c (9:2), d (9:2); c beats a (6:5), d (9:2); d beats a (6:5)
        same("pairs", voteOf(x, 1), "bcda");
        same("nearest", voteOf(x, 2), "bcda");
        ByAlphabet alike = voters(3, "abc", "1", "0", "cba", "1", "0");
        for (int rule = 0; rule < 3; rule++) {
            same("alike, the lesser letter", voteOf(alike, rule), "abc");
        }
        ByAlphabet round = voters(3, "abc", "3", "0", "bca", "2", "0", "cab", "2", "0");
        // a over b 5:2, b over c 5:2, c over a 4:3
        same("points in a circle", voteOf(round, 0), "abc");
        same("pairs in a circle", voteOf(round, 1), "abc");
        same("nearest in a circle", voteOf(round, 2), "abc");
        ByAlphabet other = voters(3, "bca", "4", "0", "cab", "3", "0", "abc", "2", "0");
        // b 8+2 = 10, c 4+6 = 10, a 3+4 = 7; a over b 5:4, b over c 6:3, c over a 7:2
        same("points, b and c alike", voteOf(other, 0), "bca");
        same("pairs, all alike", voteOf(other, 1), "abc");
        same("nearest: 4 + 6 + 7", voteOf(other, 2), "bca");
        for (int rule : new int[] {-1, 3, LEAST, MOST}) {
            due("rule " + rule, x.vote(rule, 0), -1);
        }
        for (int i : new int[] {-1, 4, LEAST, MOST}) {
            due("letter " + i, x.vote(0, i), -1);
            due("letter " + i, none.vote(2, i), -1);
        }
    }

    private static void p25circle() {
        says("25", "");
        due("without voters", made(8).circle(), 0);
        due("in one order", voters(4, "abcd", "1", "0").circle(), 0);
        due("three", voters(3, "abc", "1", "0", "bca", "1", "0", "cab", "1", "0").circle(), 3);
        due("three of five", voters(5, "dabce", "1", "0", "dbcae", "1", "0", "dcabe", "1", "0").circle(), 3);
        due("alike is no beating", voters(3, "abc", "1", "0", "cba", "1", "0").circle(), 0);
        due("six in two", voters(6, "abcdef", "1", "0", "bcaefd", "1", "0", "cabfde", "1", "0").circle(), 6);
        due("four", voters(4, "abcd", "1", "0", "bcda", "1", "0", "cdab", "1", "0").circle(), 4);
    }

    private static void p26buy() {
        says("26", "");
        ByAlphabet none = made(3);
        tell(none, "bca").alphabet();
        due("by the alphabet", none.buy(1, 0, 0, 0), 0);
        due("its price", none.buy(1, 0, 2, 1), 0);
        due("not by the alphabet", none.buy(0, 1, 1, 0), -1);
        due("no price", none.buy(0, 1, 1, 1), -1);
        ByAlphabet x = voters(3, "bac", "2", "7", "bac", "2", "7", "bca", "2", "7", "abc", "1", "1");
        due("already", x.buy(1, 0, 0, 0), 0);
        // a has 1*2 + 2 + 2 = 6 points, b 12 + 1: with one of 0, 1 bought 8 : 11, with both 10 : 9, with 2 10 : 11
        due("two by points", x.buy(0, 1, 0, 0), 3);
        due("their price", x.buy(0, 1, 0, 1), 14);
        // a over b 1 : 6; two more are needed: 5 : 2
        due("two by pairs", x.buy(0, 1, 1, 0), 3);
        due("two by the nearest", x.buy(0, 1, 2, 0), 3);
        ByAlphabet y = voters(2, "ba", "1", "5", "ba", "3", "6", "ba", "2", "5", "ab", "1", "0");
        // a needs 4 of 7, or more: it has 1; 3 alone costs 6
        due("the cheapest", y.buy(0, 1, 0, 0), 2);
        due("its price", y.buy(0, 1, 0, 1), 6);
        ByAlphabet z = voters(2, "ba", "1", "3", "ba", "1", "3", "ba", "2", "6", "ab", "1", "0");
        // 2 : 3 is too few, 3 : 2 is enough: {0, 1} and {2} cost the same
        due("then the fewest", z.buy(0, 1, 1, 0), 4);
        due("price", z.buy(0, 1, 1, 1), 6);
        ByAlphabet free = voters(2, "ba", "1", "0", "ba", "1", "0", "ba", "1", "0");
        due("then the least as a number", free.buy(0, 1, 2, 0), 3);
        due("all others as they were", voters(3, "cba", "1", "4").buy(0, 2, 0, 0), 1);
        due("the same", x.buy(1, 1, 0, 0), -1);
        for (int wrong : new int[] {-1, 3, LEAST, MOST}) {
            due("letter a " + wrong, x.buy(wrong, 0, 0, 0), -1);
            due("letter b " + wrong, x.buy(0, wrong, 0, 0), -1);
            due("rule " + wrong, x.buy(0, 1, wrong, 0), -1);
            due("what " + wrong, x.buy(0, 1, 0, wrong), -1);
        }
        due("what 2", x.buy(0, 1, 0, 2), -1);
        ByAlphabet many = made(8);
        for (int v = 0; v < 12; v++) {
            tell(many, "hgfedcba").voter(1, 1);
        }
        due("twelve voters", many.buy(0, 7, 2, 1), 6);
        due("the least of all sixes", many.buy(0, 7, 2, 0), 63);
    }

    private static void p27harm() {
        says("27", "");
        ByAlphabet x = people(3, "a", "b", "c");
        x.site(0, 0, 10, 5, 2);
        due("none", tell(x, "abc").harm(), 0);
        due("a loses 5, times 1", tell(x, "bac").harm(), 5);
        due("b loses 5, times 2", tell(x, "acb").harm(), 10);
        due("both", tell(x, "cab").harm(), 15);
        due("no order", tell(x, "ab").harm(), -1);
        due("no order", tell(x, "abd").harm(), -1);
        due("the tape is empty", fed(x), 20);
        x.end(0);
        due("nobody", tell(made(2), "ba").harm(), 0);
        ByAlphabet y = people(3, "c", "b", "a");
        y.site(0, 0, -6, 0, 2);
        // worths 0, -6, -6; ranks 2, 0, 1; by cba -6, -6, 0
        due("alike by number", tell(y, "cba").harm(), 6);
        y.site(0, 0, -6, 0, 1);
        // worths 0, 0, -6; ranks 1, 2, 0; by bca b has -6
        due("the second of those alike", tell(y, "bca").harm(), 6);
        due("the first of those alike", tell(y, "cba").harm(), 12);
    }

    private static void p28least() {
        says("28", "");
        ByAlphabet x = people(3, "a", "b", "c");
        x.site(0, 0, 10, 5, 2);
        due("how much", x.least(0), 5);
        int[] order = {1, 0, 2};
        for (int i = 0; i < 3; i++) {
            due("letter " + i, x.least(10 + i), order[i]);
        }
        for (int what : new int[] {-1, 1, 9, 13, 16, LEAST, MOST}) {
            due("what " + what, x.least(what), -1);
        }
        tell(x, "cba").alphabet();
        due("first other one", x.least(10), 1);
        ByAlphabet six = made(6);
        due("nobody", six.least(0), 0);
        due("abcdfe", six.least(14), 5);
        due("abcdfe", six.least(15), 4);
        tell(six, "abcdfe").alphabet();
        due("abcdef", six.least(14), 4);
        ByAlphabet last = people(6, "a", "b", "c", "d", "e", "f");
        tell(last, "efdcba").alphabet();
        last.site(0, 0, 10, 1, 6);
        // e, the best, loses 1 once: every other order harms more
        due("the last of all orders", last.least(0), 1);
        for (int i = 0; i < 6; i++) {
            due("fedcba", last.least(10 + i), 5 - i);
        }
        due("seven", made(7).least(0), -1);
        due("seven", made(7).least(10), -1);
        due("two", made(2).least(10), 1);
    }

    private static void p29anew() {
        says("29", "");
        ByAlphabet x = people(4, "a", "b", "c", "d");
        due("as it is", tell(x, "abcd").anew(0), 0);
        due("all stay", tell(x, "abcd").anew(1), 15);
        due("one moves", tell(x, "bcda").anew(0), 1);
        due("the others stay", tell(x, "bcda").anew(1), 14);
        due("turned round", tell(x, "dcba").anew(0), 3);
        due("the least stays", tell(x, "dcba").anew(1), 1);
        due("badc", tell(x, "badc").anew(0), 2);
        due("of {0,2} {1,2} {0,3} {1,3} the least", tell(x, "badc").anew(1), 5);
        due("cdab", tell(x, "cdab").anew(1), 3);
        due("no order", tell(x, "abc").anew(0), -1);
        for (int what : new int[] {-1, 2, LEAST, MOST}) {
            due("what " + what, tell(x, "abcd").anew(what), -1);
            due("the tape is empty", fed(x), 20);
            x.end(0);
        }
        due("nobody moves", tell(made(2), "ba").anew(0), 0);
        due("nobody stays", tell(made(2), "ba").anew(1), 0);
        ByAlphabet turned = people(4, "d", "c", "b", "a");
        due("by numbers, not by places", tell(turned, "badc").anew(1), 5);
    }

    private static void p30years() {
        says("30", "");
        ByAlphabet x = people(3, "a", "b", "c");
        x.site(0, 0, 5, 3, 3);
        x.site(1, 1, -7, 0, 1);
        for (int n : new int[] {0, -1, 61, LEAST, MOST}) {
            due("years " + n, x.years(n), -1);
        }
        due("nothing is done", x.of(0, 1), 0);
        due("one", x.years(1), 1);
        int[] coin = {5, 2, -7};
        for (int p = 0; p < 3; p++) {
            due("coin", x.of(p, 2), coin[p]);
            due("age", x.of(p, 1), 1);
        }
        due("sixty", x.years(60), 61);
        due("coin", x.of(2, 2), 61 * -7);
        due("age", x.of(2, 1), 61);
        due("years", x.look(5), 61);
        ByAlphabet y = people(3, "a", "a");
        y.set(1, 2);
        y.site(0, 1, 5, 0, 1);
        // the last by coin gets 5: 1, then 0 (0 has less), then 1 again (both 5: the lesser number is ahead)
        int[][] coins = {{0, 5}, {5, 5}, {5, 10}, {10, 10}};
        for (int[] due : coins) {
            y.years(1);
            due("as all stand ahead of it", y.of(0, 2), due[0]);
            due("as all stand ahead of it", y.of(1, 2), due[1]);
        }
    }

    private static void p30born() {
        says("30", "");
        ByAlphabet x = made(5);
        tell(x, "a").person(0, 98, 0);
        tell(x, "b").person(0, 99, 0);
        tell(x, "c").person(0, 99, 0);
        due("a year", x.years(1), 1);
        due("99", x.of(0, 1), 99);
        due("0", x.of(1, 1), 0);
        same("no market, no name", nameOf(x, 1), "b");
        due("no draw", x.look(6), 0);
        tell(x, "bar;").text();
        for (String name : new String[] {"x", "yy", "zzz"}) {
            tell(x, name).sell();
        }
        x.state(12345);
        x.years(1);
        int state = 1664525 * 12345 + 1013904223;
        due("one draw", x.look(6), state);
        due("as drawn, whether one may or not", x.of(0, 3), (state >>> 8) % 3 + 1);
        due("nothing is paid", x.of(0, 2), 0);
        ByAlphabet y = made(5);
        for (int p = 0; p < 5; p++) {
            tell(y, "a").person(0, 99, 0);
        }
        for (String name : new String[] {"", "a", "bb", "ccc", "dddd", "eeeee", "ffffff"}) {
            tell(y, name).sell();
        }
        y.state(-99);
        y.years(1);
        int s = -99;
        for (int p = 0; p < 5; p++) {
            s = 1664525 * s + 1013904223;
            due("by number", y.of(p, 3), (s >>> 8) % 7);
        }
        due("state", y.look(6), s);
    }

    private static void p30votes() {
        says("30", "");
        ByAlphabet x = voters(3, "bca", "4", "0", "cab", "3", "0", "abc", "2", "0");
        tell(x, "cba").alphabet();
        x.years(9);
        same("nine years", alphabetOf(x), "cba");
        x.years(1);
        same("ten, by points", alphabetOf(x), "bca");
        x.set(6, 1);
        x.years(9);
        same("nineteen", alphabetOf(x), "bca");
        x.years(2);
        same("twenty, by pairs", alphabetOf(x), "abc");
        x.set(6, 2);
        x.years(10);
        same("thirty, by the nearest", alphabetOf(x), "bca");
        ByAlphabet none = made(3);
        tell(none, "cab").alphabet();
        none.years(30);
        same("without voters", alphabetOf(none), "cab");
        ByAlphabet y = voters(2, "ba", "1", "0");
        tell(y, "a").person(0, 0, 0);
        tell(y, "b").person(0, 0, 0);
        y.site(0, 0, 1, 0, 1);
        y.years(15);
        due("ten by ab", y.of(0, 2), 10);
        due("five by ba", y.of(1, 2), 5);
    }

    private static void p31image() {
        says("31", "");
        ByAlphabet x = new ByAlphabet();
        no("none", x.image(false));
        tell(x, "a").person(1, 2, 3);
        tell(x, "abcde").chance(0, 5);
        tell(x, "edcba").voter(2, 3);
        tell(x, "b").sell();
        tell(x, "bar when letters>1;").text();
        tell(x, "bacde").alphabet();
        x.site(0, 0, 9, 1, 1);
        x.state(5);
        x.set(5, 7);
        x.years(1);
        yes("taken", x.image(true));
        for (int time = 0; time < 2; time++) {
            x.letters(3);
            x.state(6);
            tell(x, "cc").person(0, 9, 9);
            tell(x, "may when").text();
            tell(x, "zz");
            yes("gone back", x.image(false));
            due("letters", x.look(0), 5);
            due("people", x.look(1), 1);
            due("market", x.look(2), 1);
            due("voters", x.look(3), 1);
            due("naming", x.look(4), 1);
            due("years", x.look(5), 1);
            due("state", x.look(6), 5);
            due("years told", x.look(25), 7);
            same("alphabet", alphabetOf(x), "bacde");
            same("name", nameOf(x, 0), "a");
            due("sex", x.of(0, 0), 1);
            due("age", x.of(0, 1), 3);
            due("coin", x.of(0, 2), 12);
            due("worth", x.worth(0, -1), 9);
            due("chance", x.expected(0, 0), 9);
            due("voter", x.over(4, 0), 2);
            due("fault is not of it", x.fault(0), 1);
            yes("nor is the tape", x.named(0));
            same("zz", nameOf(x, 0), "zz");
            due("naming", with(x, 0, "ab", 0), 0);
            due("naming", with(x, 0, "b", 0), 1);
        }
        yes("taken anew", x.image(true));
        x.named(0);
        yes("gone back", x.image(false));
        same("the newer one", nameOf(x, 0), "zz");
    }

    private static void p32look() {
        says("32", "");
        ByAlphabet x = voters(3, "abc", "1", "1");
        tell(x, "cab").alphabet();
        tell(x, "a").person(0, 0, 0);
        tell(x, "b").person(0, 0, 0);
        tell(x, "b").sell();
        tell(x, "may;may;").text();
        x.state(-3);
        int[] first = {3, 2, 1, 1, 2, 0, -3};
        for (int what = 0; what < 7; what++) {
            due("look " + what, x.look(what), first[what]);
        }
        int[] letters = {2, 0, 1};
        for (int i = 0; i < 3; i++) {
            due("letter " + i, x.look(10 + i), letters[i]);
        }
        int[] told = {1, 2, 30, 40, 50, 60, 2};
        for (int k = 0; k < 7; k++) {
            x.set(k, told[k]);
        }
        for (int k = 0; k < 7; k++) {
            due("set " + k, x.look(20 + k), told[k]);
        }
        for (int what : new int[] {-1, 7, 8, 9, 13, 14, 18, 19, 27, 28, LEAST, MOST}) {
            due("look " + what, x.look(what), -1);
        }
        x.years(4);
        due("years", x.look(5), 4);
        due("letter 7 of 8", made(8).look(17), 7);
        due("no letter 8", made(8).look(18), -1);
    }

    private static void emptiesTape() {
        says("8 to 10, 13, 17, 18, 22, 27, 29", "");
        for (int call = 0; call < 9; call++) {
            ByAlphabet x = new ByAlphabet();
            tell(x, "abc");
            switch (call) {
                case 0 -> x.person(0, 0, -1);
                case 1 -> x.named(0);
                case 2 -> x.alphabet();
                case 3 -> x.chance(9, 0);
                case 4 -> x.with(0, 0);
                case 5 -> x.sell();
                case 6 -> x.voter(0, 0);
                case 7 -> x.harm();
                default -> x.anew(7);
            }
            due("the tape is empty behind call " + call, fed(x), 20);
        }
    }
}

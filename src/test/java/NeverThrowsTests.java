import java.util.Random;

/** Any arguments in any state, 512 calls an object: nothing is thrown, and every call ends. */
public final class NeverThrowsTests {
    private static final int[] ODD = {Integer.MIN_VALUE, Integer.MAX_VALUE, -1, 0, 1, 2, 3, 4, 5, 6, 7, 8, 9, 10, 11, 12,
        13, 15, 16, 17, 19, 20, 21, 26, 27, 60, 61, 99, 100, 399, 400, 401, -2, -100, 9999, 10000, 999999};
    private static final String[] TEXTS = {"", "a", "ab", "ba", "abc", "cab", "zzzzzz", "abcde", "edcba", "abcdefgh",
        "hgfedcba", "may;", "bar when not (age<3 or like=0);", "may when coin*coin*coin/7>worth;bar;", "may when (((((((((",
        "may when not not not not not not not not not", "/0", "bar when 1/", "\u00ff\u0000"};

    public static void main(String[] args) {
        Random random = new Random(1);
        int wrong = 0;
        for (int run = 0; run < 400; run++) {
            ByAlphabet x = new ByAlphabet();
            for (int call = 0; call < 512; call++) {
                int which = random.nextInt(36);
                int[] v = new int[5];
                for (int i = 0; i < 5; i++) {
                    v[i] = random.nextInt(3) == 0 ? ODD[random.nextInt(ODD.length)] : random.nextInt(7) - 1;
                }
                try {
                    call(x, which, v, TEXTS[random.nextInt(TEXTS.length)]);
                } catch (RuntimeException | Error thrown) {
                    wrong++;
                    System.out.println("run " + run + ", call " + call + " of kind " + which + " threw " + thrown);
                }
            }
        }
        System.out.println(wrong == 0 ? "nothing was thrown" : wrong + " calls threw");
        if (wrong != 0) {
            System.exit(1);
        }
    }

    private static void call(ByAlphabet x, int which, int[] v, String text) {
        switch (which) {
            case 0 -> x.state(v[0]);
            case 1 -> x.letters(v[0] == 3 ? v[1] : -1);
            case 2 -> x.feed(v[0], v[1], v[2], v[3], v[4]);
            case 3 -> x.end(v[0]);
            case 4 -> x.text();
            case 5 -> x.fault(v[0]);
            case 6 -> x.person(v[0], v[1], v[2]);
            case 7 -> x.named(v[0]);
            case 8 -> x.alphabet();
            case 9 -> x.set(v[0], v[1]);
            case 10 -> x.site(v[0], v[1], v[2], v[3], v[4]);
            case 11 -> x.chance(v[0], v[1]);
            case 12 -> x.of(v[0], v[1]);
            case 13 -> x.worth(v[0], v[1]);
            case 14 -> x.expected(v[0], v[1]);
            case 15 -> x.with(v[0], v[1]);
            case 16 -> x.sell();
            case 17 -> x.take(v[0], v[1]);
            case 18 -> x.rest(v[0]);
            case 19 -> x.wed(v[0], v[1]);
            case 20 -> x.voter(v[0], v[1]);
            case 21 -> x.over(v[0], v[1]);
            case 22 -> x.vote(v[0], v[1]);
            case 23 -> x.circle();
            case 24 -> x.buy(v[0], v[1], v[2], v[3]);
            case 25 -> x.harm();
            case 26 -> x.least(v[0]);
            case 27 -> x.anew(v[0]);
            case 28 -> x.years(v[0]);
            case 29 -> x.image(v[0] > 0);
            case 30 -> x.look(v[0]);
            default -> {
                x.end(0);
                Check.tell(x, text);
                use(x, which, v);
            }
        }
    }

    private static void use(ByAlphabet x, int which, int[] v) {
        switch (which) {
            case 31 -> x.person(v[0] & 1, 98, v[1]);
            case 32 -> x.text();
            case 33 -> x.voter(1 + (v[0] & 7), v[1]);
            case 34 -> x.sell();
            default -> x.alphabet();
        }
    }
}

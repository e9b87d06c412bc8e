/** What the tests share: counting wrong answers, and telling a text to an object's TAPE. */
final class Check {
    private int wrong;
    private int made;

    void due(String what, long got, long want) {
        made++;
        if (got != want) {
            wrong++;
            System.out.println(what + " answered " + got + ", due is " + want);
        }
    }

    void due(String what, boolean got, boolean want) {
        due(what, got ? 1 : 0, want ? 1 : 0);
    }

    int wrong() {
        return wrong;
    }

    void finish() {
        System.out.println(wrong == 0 ? made + " answers are as due" : wrong + " of " + made + " answers are not as due");
        if (wrong != 0) {
            System.exit(1);
        }
    }

    /** The four bytes from place i of a text on, blanks behind it. */
    static int word(String text, int i) {
        int word = 0;
        for (int j = i; j < i + 4; j++) {
            word = word << 8 | (j < text.length() ? text.charAt(j) & 255 : ' ');
        }
        return word;
    }

    /** The TAPE, empty before, has the text and nothing else. */
    static ByAlphabet tell(ByAlphabet x, String text) {
        for (int i = 0; i < text.length(); i += 20) {
            x.feed(word(text, i), word(text, i + 4), word(text, i + 8), word(text, i + 12), word(text, i + 16));
        }
        x.end(text.length());
        return x;
    }
}

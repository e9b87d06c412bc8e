import java.util.Random;

/** Long runs of calls, drawn from fixed seeds, answered by the class and by the model. */
public final class ModelTests {
    private static final Check CHECK = new Check();
    private static final int[] ODD = {-1, -2, Integer.MIN_VALUE, Integer.MAX_VALUE, 100, 7, 12, 20, 21, 400, -1000000};

    private final Random random;
    private final ByAlphabet x = new ByAlphabet();
    private final Model m = new Model();
    private final String run;

    private ModelTests(int seed) {
        random = new Random(seed);
        run = "seed " + seed + ": ";
    }

    public static void main(String[] args) {
        int runs = args.length > 0 ? Integer.parseInt(args[0]) : 240;
        int first = args.length > 1 ? Integer.parseInt(args[1]) : 0;
        for (int seed = first; seed < first + runs && CHECK.wrong() < 20; seed++) {
            new ModelTests(seed).go();
        }
        CHECK.finish();
    }

    private int below(int n) {
        return random.nextInt(n);
    }

    private boolean oneIn(int n) {
        return below(n) == 0;
    }

    /** Mostly what can be, at times what can't. */
    private int some(int least, int greatest) {
        if (oneIn(40)) {
            return ODD[below(ODD.length)];
        }
        if (oneIn(25)) {
            return oneIn(2) ? least - 1 : greatest + 1;
        }
        if (oneIn(8)) {
            return oneIn(2) ? least : greatest;
        }
        return least + below(Math.max(1, greatest - least + 1));
    }

    private int who() {
        return some(0, m.w.people.size() - 1);
    }

    private void due(String call, int got, int want) {
        CHECK.due(run + call, got, want);
    }

    private void due(String call, boolean got, boolean want) {
        CHECK.due(run + call, got, want);
    }

    private void tell(String text) {
        for (int i = 0; i < text.length(); i += 20) {
            int[] f = new int[5];
            for (int j = 0; j < 5; j++) {
                f[j] = Check.word(text, i + 4 * j);
            }
            due("feed", x.feed(f[0], f[1], f[2], f[3], f[4]), m.feed(f[0], f[1], f[2], f[3], f[4]));
        }
        int n = Math.min(text.length(), m.tape.length());
        due("end " + n, x.end(n), m.end(n));
    }

    private String name() {
        if (oneIn(30)) {
            return new String[] {"abcdefg", "A", "a b", "a1", "\u00e9", "{", "`", "ab\n"}[below(8)];
        }
        int many = oneIn(6) ? 6 : below(4);
        StringBuilder s = new StringBuilder();
        for (int i = 0; i < many; i++) {
            s.append(oneIn(5) ? (char) ('a' + below(26)) : (char) ('a' + below(Math.min(26, m.w.k + 1))));
        }
        return s.toString();
    }

    private String order() {
        StringBuilder s = new StringBuilder("abcdefgh".substring(0, m.w.k));
        int swaps = oneIn(3) ? 1 : 10;
        for (int i = 0; i < swaps; i++) {
            int a = below(s.length());
            int b = below(s.length());
            char held = s.charAt(a);
            s.setCharAt(a, s.charAt(b));
            s.setCharAt(b, held);
        }
        if (oneIn(25)) {
            s.setCharAt(below(s.length()), (char) ('a' + below(9)));
        }
        return oneIn(30) ? s.substring(1) : oneIn(30) ? s + "a" : s.toString();
    }

    // ---- texts of NAMING

    private String blank() {
        return oneIn(4) ? oneIn(4) ? "\n" : " " : "";
    }

    private String unit() {
        String[] facts = {"letters", "first", "last", "like", "abroad", "twice", "age", "coin", "sex", "worth"};
        return oneIn(3) ? "" + (oneIn(4) ? below(10000) : below(6)) : facts[below(10)];
    }

    private String product() {
        String s = unit();
        for (int i = 0; i < 3 && oneIn(4); i++) {
            s += blank() + (oneIn(3) ? "/" + blank() + (oneIn(20) ? "00" : 1 + below(9)) : "*" + blank() + unit());
        }
        return s;
    }

    private String sum() {
        String s = product();
        for (int i = 0; i < 3 && oneIn(4); i++) {
            s += blank() + "+-".charAt(below(2)) + blank() + product();
        }
        return s;
    }

    private String claim(int deep) {
        if (deep > 0 && oneIn(4)) {
            return oneIn(2) ? "not " + claim(deep - 1) : "(" + blank() + condition(deep - 1) + blank() + ")";
        }
        return sum() + blank() + "<=>".charAt(below(3)) + blank() + sum();
    }

    private String condition(int deep) {
        String s = claim(deep);
        for (int i = 0; i < 3 && oneIn(3); i++) {
            s += (oneIn(2) ? " or " : " and ") + claim(deep);
        }
        return s;
    }

    private String naming() {
        if (oneIn(12)) {
            return "may;".repeat(below(20)) + (oneIn(2) ? "bar" : "or");
        }
        if (oneIn(10)) {
            return "bar when " + deep(5 + below(6)) + ";";
        }
        StringBuilder s = new StringBuilder();
        int lines = below(6);
        for (int i = 0; i < lines; i++) {
            String line = (oneIn(2) ? "may" : "bar") + (oneIn(6) ? "" : " when " + condition(3)) + blank() + ";" + blank();
            if (s.length() + line.length() <= 400) {
                s.append(line);
            }
        }
        if (oneIn(3) && s.length() > 0) {
            spoil(s);
        }
        return s.length() > 400 ? s.substring(0, 400) : s.toString();
    }

    private String deep(int many) {
        StringBuilder s = new StringBuilder();
        int brackets = 0;
        for (int i = 0; i < many; i++) {
            boolean isNot = oneIn(2);
            s.append(isNot ? "not " : "(");
            brackets += isNot ? 0 : 1;
        }
        s.append("age<5");
        return s + ")".repeat(brackets) + (oneIn(3) ? " or " + "(not ".repeat(4) + "1=1" + "))))" : "");
    }

    private void spoil(StringBuilder s) {
        int at = below(s.length());
        String signs = ";+-*/()<=>a0 9m\n#AZ@[`{\u00ff";
        switch (below(4)) {
            case 0:
                s.deleteCharAt(at);
                break;
            case 1:
                s.insert(at, signs.charAt(below(signs.length())));
                break;
            case 2:
                s.setCharAt(at, signs.charAt(below(signs.length())));
                break;
            default:
                s.setLength(at);
        }
    }

    // ---- calls

    private void go() {
        if (!oneIn(4)) {
            int k = 2 + below(7);
            due("letters " + k, x.letters(k), m.letters(k));
        }
        for (int i = 0; i < 6; i++) {
            site();
        }
        int people = oneIn(6) ? 22 : below(9);
        for (int i = 0; i < people; i++) {
            person();
        }
        if (oneIn(3)) {
            restless();
        }
        int voters = oneIn(4) ? 13 : oneIn(3) ? 5 : 0;
        for (int i = 0; i < voters; i++) {
            voter();
        }
        int calls = 60 + below(60);
        for (int i = 0; i < calls; i++) {
            call();
        }
        sweep();
    }

    private void site() {
        int s = some(0, 5);
        int side = some(0, 1);
        int first = oneIn(3) ? some(-20, 20) : some(-99, 99);
        int less = oneIn(3) ? some(0, 99) : some(0, 9);
        int many = oneIn(2) ? some(0, 20) : some(0, 5);
        due("site", x.site(s, side, first, less, many), m.site(s, side, first, less, many));
    }

    private void person() {
        tell(name());
        int sex = some(0, 1);
        int age = oneIn(3) ? some(90, 99) : some(0, 99);
        int coin = oneIn(3) ? some(0, 9999) : some(0, 5);
        due("person", x.person(sex, age, coin), m.person(sex, age, coin));
    }

    /** Names enough to change round by round. */
    private void restless() {
        for (int what = 2; what < 5; what++) {
            int v = below(4);
            due("set " + what, x.set(what, v), m.set(what, v));
        }
        for (int i = 0; i < 4 + below(6); i++) {
            tell(name());
            due("sell", x.sell(), m.sell());
        }
        boolean fromMarket = oneIn(2);
        for (int p = 0; fromMarket && !m.w.market.isEmpty() && p < m.w.people.size(); p++) {
            tell(m.w.market.get(below(m.w.market.size())));
            due("named", x.named(p), m.named(p));
        }
        for (int what = 0; what < 3; what++) {
            due("rest " + what, x.rest(what), m.rest(what));
        }
    }

    private void voter() {
        tell(order());
        int weight = some(1, 9);
        int price = oneIn(2) ? some(0, 999) : some(0, 3);
        due("voter", x.voter(weight, price), m.voter(weight, price));
    }

    private void call() {
        switch (below(22)) {
            case 0:
                small();
                break;
            case 1:
                site();
                break;
            case 2:
                person();
                break;
            case 3:
                tell(naming());
                due("text", x.text(), m.text());
                due("fault 0", x.fault(0), m.fault(0));
                due("fault 1", x.fault(1), m.fault(1));
                break;
            case 4:
                setting();
                break;
            case 5:
                tell(order());
                int i = some(0, 5);
                int weight = some(0, 99);
                due("chance", x.chance(i, weight), m.chance(i, weight));
                break;
            case 6:
                tell(order());
                due("alphabet", x.alphabet(), m.alphabet());
                break;
            case 7:
                asked();
                break;
            case 8:
            case 9:
            case 10:
                tell(name());
                int p = who();
                int what = some(0, 3);
                due("with " + what, x.with(p, what), m.with(p, what));
                break;
            case 11:
            case 12:
                tell(name());
                due("sell", x.sell(), m.sell());
                break;
            case 13:
                int q = who();
                int n = some(0, m.w.market.size() - 1);
                due("take", x.take(q, n), m.take(q, n));
                break;
            case 14:
                rested();
                break;
            case 15:
                int one = who();
                int which = some(0, 2);
                due("wed " + which, x.wed(one, which), m.wed(one, which));
                break;
            case 16:
                voted();
                break;
            case 17:
                bought();
                break;
            case 18:
                harmed();
                break;
            case 19:
                sorted();
                break;
            case 20:
                int years = oneIn(5) ? some(1, 60) : some(1, 6);
                due("years", x.years(years), m.years(years));
                break;
            default:
                imaged();
        }
    }

    private void small() {
        int v = random.nextInt();
        switch (below(6)) {
            case 0:
                due("state", x.state(v), m.state(v));
                break;
            case 1:
                int f = some(0, 1);
                due("fault", x.fault(f), m.fault(f));
                break;
            case 2:
                due("feed odd", x.feed(v, ~v, v, v, 3), m.feed(v, ~v, v, v, 3));
                int n = some(0, 20);
                due("end odd", x.end(n), m.end(n));
                break;
            case 3:
                int p = who();
                due("named odd", x.named(p), m.named(p));
                break;
            case 4:
                int what = some(0, 30);
                due("look " + what, x.look(what), m.look(what));
                break;
            default:
                tell(name());
                int q = who();
                due("named", x.named(q), m.named(q));
        }
    }

    private void setting() {
        int[] greatest = {2, 2, 9, 9, 9, 99, 2, 3};
        int what = some(0, 6);
        int v = some(0, what >= 0 && what < 8 ? greatest[what] : 5);
        due("set " + what, x.set(what, v), m.set(what, v));
    }

    private void asked() {
        int p = who();
        int what = oneIn(2) ? some(0, 4) : some(10, 15);
        due("of " + what, x.of(p, what), m.of(p, what));
        int i = some(-1, 5);
        due("worth " + i, x.worth(p, i), m.worth(p, i));
        int above = some(0, 1);
        due("expected " + above, x.expected(p, above), m.expected(p, above));
    }

    private void rested() {
        if (m.w.people.size() * m.w.market.size() > 60 && !oneIn(4)) {
            return;
        }
        for (int what = -1; what <= 3; what++) {
            due("rest " + what, x.rest(what), m.rest(what));
        }
    }

    private void voted() {
        voter();
        int a = some(0, m.w.k - 1);
        int b = some(0, m.w.k - 1);
        due("over", x.over(a, b), m.over(a, b));
        for (int rule = 0; rule < 3; rule++) {
            int i = some(0, m.w.k - 1);
            due("vote " + rule, x.vote(rule, i), m.vote(rule, i));
        }
        int rule = some(0, 2);
        due("vote " + rule, x.vote(rule, a), m.vote(rule, a));
        due("circle", x.circle(), m.circle());
    }

    private void bought() {
        int a = some(0, m.w.k - 1);
        int b = some(0, m.w.k - 1);
        int rule = some(0, 2);
        int what = some(0, 1);
        boolean isSlow = rule == 2 && m.w.k > 5 && m.w.voters.size() > (m.w.k > 7 ? 4 : 7);
        if (!isSlow) {
            due("buy " + a + " " + b + " " + rule, x.buy(a, b, rule, what), m.buy(a, b, rule, what));
        }
    }

    private void harmed() {
        tell(order());
        due("harm", x.harm(), m.harm());
        if (m.w.k < 6 || m.w.k > 6 || oneIn(6)) {
            int what = oneIn(2) ? 0 : some(10, 10 + m.w.k - 1);
            due("least " + what, x.least(what), m.least(what));
        }
    }

    private void sorted() {
        tell(order());
        int what = some(0, 1);
        due("anew " + what, x.anew(what), m.anew(what));
    }

    private void imaged() {
        if (oneIn(12)) {
            int k = some(2, 8);
            due("letters " + k, x.letters(k), m.letters(k));
        }
        boolean taken = oneIn(2);
        if (oneIn(3)) {
            due("image", x.image(taken), m.image(taken));
        }
    }

    private void sweep() {
        for (int what = -1; what < 30; what++) {
            due("look " + what, x.look(what), m.look(what));
        }
        for (int p = 0; p <= m.w.people.size(); p++) {
            for (int what = -1; what < 18; what++) {
                due("of " + what, x.of(p, what), m.of(p, what));
            }
            for (int i = -2; i < 7; i++) {
                due("worth " + i, x.worth(p, i), m.worth(p, i));
            }
            for (int what = -1; what < 4; what++) {
                due("expected " + what, x.expected(p, what), m.expected(p, what));
                due("wed " + what, x.wed(p, what), m.wed(p, what));
            }
        }
        for (int rule = 0; rule < 3; rule++) {
            for (int i = -1; i <= m.w.k; i++) {
                due("vote " + rule, x.vote(rule, i), m.vote(rule, i));
            }
        }
        due("fault 0", x.fault(0), m.fault(0));
        due("fault 1", x.fault(1), m.fault(1));
    }
}

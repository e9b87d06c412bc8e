import java.util.ArrayList;
import java.util.Comparator;
import java.util.HashMap;
import java.util.List;
import java.util.Map;
import java.util.TreeMap;

/** The document told once more, as literally and as slowly as it goes, to hold the class against. */
final class Model {
    static final int NO_SUCH = -1000000;

    static final class Person {
        String name;
        int sex;
        int age;
        int coin;

        Person(String name, int sex, int age, int coin) {
            this.name = name;
            this.sex = sex;
            this.age = age;
            this.coin = coin;
        }

        Person copy() {
            return new Person(name, sex, age, coin);
        }
    }

    record Site(int side, int first, int less, int many) { }

    record Chance(String order, int weight) { }

    record Voter(String order, int weight, int price) { }

    static final class World {
        int k = 5;
        int state;
        String alphabet = "abcde";
        List<Person> people = new ArrayList<>();
        Map<Integer, Site> sites = new TreeMap<>();
        Map<Integer, Chance> chances = new TreeMap<>();
        List<NamingText.Line> naming = new ArrayList<>();
        int[] told = {0, 0, 1, 1, 1, 1, 0};
        List<String> market = new ArrayList<>();
        List<Voter> voters = new ArrayList<>();
        int years;

        World copy() {
            World w = new World();
            w.k = k;
            w.state = state;
            w.alphabet = alphabet;
            for (Person p : people) {
                w.people.add(p.copy());
            }
            w.sites.putAll(sites);
            w.chances.putAll(chances);
            w.naming.addAll(naming);
            w.told = told.clone();
            w.market.addAll(market);
            w.voters.addAll(voters);
            w.years = years;
            return w;
        }
    }

    World w = new World();
    World kept;
    String tape = "";
    int faultWhat;
    int faultPlace = -1;

    // ---- the tape

    private String once() {
        String told = tape;
        tape = "";
        return told;
    }

    private static boolean isName(String s) {
        return s.matches("[a-z]{0,6}");
    }

    private boolean isOrder(String s) {
        if (s.length() != w.k) {
            return false;
        }
        for (char c = 'a'; c < 'a' + w.k; c++) {
            if (s.indexOf(c) < 0) {
                return false;
            }
        }
        return true;
    }

    private boolean isOne(int p) {
        return p >= 0 && p < w.people.size();
    }

    private static boolean in(int v, int least, int greatest) {
        return v >= least && v <= greatest;
    }

    // ---- queues

    /** A letter's weight in a comparison, or null if it is left out. */
    private Integer weightOf(char c, String order) {
        if (c < 'a' + w.k) {
            return 1000 + order.indexOf(c);
        }
        switch (w.told[0]) {
            case 0:
                return 2000 + c;
            case 1:
                return (int) c;
            default:
                return null;
        }
    }

    private int compareNames(String a, String b, String order) {
        List<Integer> x = new ArrayList<>();
        List<Integer> y = new ArrayList<>();
        for (char c : a.toCharArray()) {
            if (weightOf(c, order) != null) {
                x.add(weightOf(c, order));
            }
        }
        for (char c : b.toCharArray()) {
            if (weightOf(c, order) != null) {
                y.add(weightOf(c, order));
            }
        }
        for (int i = 0; i < Math.min(x.size(), y.size()); i++) {
            if (!x.get(i).equals(y.get(i))) {
                return x.get(i) - y.get(i);
            }
        }
        return x.size() - y.size();
    }

    private List<Integer> listBy(String order) {
        List<Integer> list = new ArrayList<>();
        for (int i = 0; i < w.people.size(); i++) {
            list.add(i);
        }
        Comparator<Integer> c = (i, j) -> {
            Person p = w.people.get(i);
            Person q = w.people.get(j);
            int by = compareNames(p.name, q.name, order);
            if (by == 0 && w.told[1] == 1) {
                by = Integer.compare(q.age, p.age);
            }
            if (by == 0 && w.told[1] == 2) {
                by = Integer.compare(q.coin, p.coin);
            }
            return by != 0 ? by : i - j;
        };
        list.sort(c);
        return list;
    }

    int worthOf(int p, String order) {
        return worthsBy(order)[p];
    }

    private int[] worthsBy(String order) {
        List<Integer> front = listBy(order);
        List<Integer> back = new ArrayList<>();
        for (int q : front) {
            back.add(0, q);
        }
        int[] worths = new int[front.size()];
        for (Site s : w.sites.values()) {
            List<Integer> queue = s.side == 0 ? front : back;
            for (int i = 0; i < queue.size() && i < s.many; i++) {
                if (s.first > 0) {
                    worths[queue.get(i)] += Math.max(0, s.first - i * s.less);
                } else if (s.first < 0) {
                    worths[queue.get(i)] += Math.min(0, s.first + i * s.less);
                }
            }
        }
        return worths;
    }

    private int worthIfNamed(int p, String name) {
        String now = w.people.get(p).name;
        w.people.get(p).name = name;
        int worth = worthOf(p, w.alphabet);
        w.people.get(p).name = now;
        return worth;
    }

    // ---- naming and the market

    private boolean may(int p, String name) {
        Map<String, Integer> facts = new HashMap<>();
        Person one = w.people.get(p);
        facts.put("letters", name.length());
        facts.put("first", name.isEmpty() ? w.k + 1 : placeOf(name.charAt(0)));
        facts.put("last", name.isEmpty() ? w.k + 1 : placeOf(name.charAt(name.length() - 1)));
        int like = 0;
        while (like < name.length() && like < one.name.length() && name.charAt(like) == one.name.charAt(like)) {
            like++;
        }
        facts.put("like", like);
        facts.put("abroad", (int) name.chars().filter(c -> c >= 'a' + w.k).count());
        facts.put("twice", name.chars().distinct().count() < name.length() ? 1 : 0);
        facts.put("age", one.age);
        facts.put("coin", one.coin);
        facts.put("sex", one.sex);
        facts.put("worth", worthOf(p, w.alphabet));
        for (NamingText.Line line : w.naming) {
            if (line.when() == null || line.when().holds(facts)) {
                return line.may();
            }
        }
        return true;
    }

    private int placeOf(char c) {
        int place = w.alphabet.indexOf(c);
        return place < 0 ? w.k : place;
    }

    private int fee(String from, String to) {
        if (from.isEmpty()) {
            return to.length() * w.told[3];
        }
        if (to.isEmpty()) {
            return from.length() * w.told[4];
        }
        int changed = fee(from.substring(1), to.substring(1)) + (from.charAt(0) == to.charAt(0) ? 0 : w.told[2]);
        int taken = fee(from, to.substring(1)) + w.told[3];
        int dropped = fee(from.substring(1), to) + w.told[4];
        return Math.min(changed, Math.min(taken, dropped));
    }

    private int gain(int p, String name) {
        return w.told[5] * (worthIfNamed(p, name) - worthOf(p, w.alphabet)) - fee(w.people.get(p).name, name);
    }

    private int[] atRest() {
        World before = w.copy();
        List<List<String>> seen = new ArrayList<>();
        int taken = 0;
        int[] answer = {-1, 0, 0};
        for (int round = 1; round <= 40; round++) {
            seen.add(allNames());
            int now = 0;
            for (int p = 0; p < w.people.size(); p++) {
                int best = 0;
                String choice = null;
                for (String name : w.market) {
                    int gain = gain(p, name);
                    if (gain > best && may(p, name)) {
                        best = gain;
                        choice = name;
                    }
                }
                if (choice != null) {
                    w.people.get(p).name = choice;
                    now++;
                }
            }
            taken += now;
            if (now == 0) {
                answer[0] = round - 1;
                break;
            }
            int same = seen.lastIndexOf(allNames());
            if (same >= 0) {
                answer[1] = seen.size() - same;
                break;
            }
        }
        answer[2] = taken;
        w = before;
        return answer;
    }

    private List<String> allNames() {
        List<String> names = new ArrayList<>();
        for (Person p : w.people) {
            names.add(p.name);
        }
        return names;
    }

    // ---- weddings

    private boolean better(int p, int q) {
        int a = worthOf(p, w.alphabet);
        int b = worthOf(q, w.alphabet);
        return a > b || a == b && p < q;
    }

    private Map<Integer, Integer> weddings() {
        List<Integer> asked = new ArrayList<>();
        List<Integer> left = new ArrayList<>();
        for (int p = 0; p < w.people.size(); p++) {
            (w.people.get(p).sex == 1 ? asked : left).add(p);
        }
        asked.sort((p, q) -> p.equals(q) ? 0 : better(p, q) ? -1 : 1);
        Map<Integer, Integer> next = new HashMap<>();
        Map<Integer, Integer> keeps = new HashMap<>();
        while (!left.isEmpty()) {
            int p = left.remove(0);
            int i = next.merge(p, 1, Integer::sum) - 1;
            if (i >= asked.size()) {
                continue;
            }
            int q = asked.get(i);
            Integer held = keeps.get(q);
            if (held == null) {
                keeps.put(q, p);
            } else if (better(p, held)) {
                keeps.put(q, p);
                left.add(held);
            } else {
                left.add(p);
            }
        }
        Map<Integer, Integer> couples = new HashMap<>();
        keeps.forEach((q, p) -> {
            couples.put(p, q);
            couples.put(q, p);
        });
        return couples;
    }

    // ---- votes

    private static int forOver(List<Voter> voters, char a, char b) {
        int sum = 0;
        for (Voter v : voters) {
            if (v.order.indexOf(a) < v.order.indexOf(b)) {
                sum += v.weight;
            }
        }
        return sum;
    }

    private String orderBy(List<Voter> voters, int rule) {
        if (voters.isEmpty()) {
            return w.alphabet;
        }
        if (rule == 2) {
            return nearest(voters);
        }
        int[] merit = new int[w.k];
        for (int a = 0; a < w.k; a++) {
            char letter = (char) ('a' + a);
            if (rule == 0) {
                for (Voter v : voters) {
                    merit[a] += (w.k - 1 - v.order.indexOf(letter)) * v.weight;
                }
            } else {
                for (char b = 'a'; b < 'a' + w.k; b++) {
                    merit[a] += b != letter && forOver(voters, letter, b) > forOver(voters, b, letter) ? 1 : 0;
                }
            }
        }
        List<Integer> row = new ArrayList<>();
        for (int a = 0; a < w.k; a++) {
            row.add(a);
        }
        row.sort((a, b) -> merit[a] != merit[b] ? merit[b] - merit[a] : a - b);
        StringBuilder order = new StringBuilder();
        row.forEach(a -> order.append((char) ('a' + a)));
        return order.toString();
    }

    private static final Map<Integer, List<String>> ORDERS = new HashMap<>();

    private static List<String> allOrders(int k) {
        return ORDERS.computeIfAbsent(k, n -> {
            List<String> all = new ArrayList<>();
            extend("", n, all);
            return all;
        });
    }

    private static void extend(String begun, int k, List<String> all) {
        if (begun.length() == k) {
            all.add(begun);
            return;
        }
        for (char c = 'a'; c < 'a' + k; c++) {
            if (begun.indexOf(c) < 0) {
                extend(begun + c, k, all);
            }
        }
    }

    private String nearest(List<Voter> voters) {
        int[][] table = new int[w.k][w.k];
        for (int a = 0; a < w.k; a++) {
            for (int b = 0; b < w.k; b++) {
                table[a][b] = forOver(voters, (char) ('a' + a), (char) ('a' + b));
            }
        }
        String best = null;
        int most = -1;
        for (String order : allOrders(w.k)) {
            int score = 0;
            for (int i = 0; i < w.k; i++) {
                for (int j = i + 1; j < w.k; j++) {
                    score += table[order.charAt(i) - 'a'][order.charAt(j) - 'a'];
                }
            }
            if (score > most) {
                most = score;
                best = order;
            }
        }
        return best;
    }

    private boolean comesBack(char from) {
        List<Character> reached = new ArrayList<>();
        reached.add(from);
        for (int i = 0; i < reached.size(); i++) {
            char a = reached.get(i);
            for (char b = 'a'; b < 'a' + w.k; b++) {
                if (b != a && forOver(w.voters, a, b) > forOver(w.voters, b, a)) {
                    if (b == from) {
                        return true;
                    }
                    if (!reached.contains(b)) {
                        reached.add(b);
                    }
                }
            }
        }
        return false;
    }

    private int[] bought(char a, char b, int rule) {
        int[] best = null;
        for (int set = 0; set < 1 << w.voters.size(); set++) {
            List<Voter> voters = new ArrayList<>();
            int price = 0;
            for (int v = 0; v < w.voters.size(); v++) {
                Voter one = w.voters.get(v);
                if ((set >> v & 1) == 1) {
                    price += one.price;
                    one = new Voter(a + one.order.replace(String.valueOf(a), ""), one.weight, one.price);
                }
                voters.add(one);
            }
            int few = Integer.bitCount(set);
            if (best != null && (price > best[1] || price == best[1] && few >= Integer.bitCount(best[0]))) {
                continue;
            }
            String order = orderBy(voters, rule);
            if (order.indexOf(a) < order.indexOf(b)) {
                best = new int[] {set, price};
            }
        }
        return best;
    }

    // ---- harm and lists

    private int harmOf(String order) {
        int n = w.people.size();
        int[] had = worthsBy(w.alphabet);
        int[] has = worthsBy(order);
        int sum = 0;
        for (int p = 0; p < n; p++) {
            int rank = 0;
            for (int q = 0; q < n; q++) {
                rank += had[q] < had[p] || had[q] == had[p] && q < p ? 1 : 0;
            }
            sum += Math.max(0, had[p] - has[p]) * (n - rank);
        }
        return sum;
    }

    private int staying(String order) {
        List<Integer> from = listBy(w.alphabet);
        List<Integer> to = listBy(order);
        int best = 0;
        for (int set = 0; set < 1 << from.size(); set++) {
            if (Integer.bitCount(set) > Integer.bitCount(best) && isInOrder(set, from, to)) {
                best = set;
            }
        }
        return best;
    }

    private static boolean isInOrder(int set, List<Integer> from, List<Integer> to) {
        int last = -1;
        for (int p : from) {
            if ((set >> p & 1) == 1) {
                int place = to.indexOf(p);
                if (place < last) {
                    return false;
                }
                last = place;
            }
        }
        return true;
    }

    // ---- the face

    int state(int v) {
        int before = w.state;
        w.state = v;
        return before;
    }

    boolean letters(int k) {
        if (!in(k, 2, 8)) {
            return false;
        }
        int state = w.state;
        w = new World();
        w.state = state;
        w.k = k;
        w.alphabet = "abcdefgh".substring(0, k);
        return true;
    }

    int feed(int a, int b, int c, int d, int e) {
        if (tape.length() + 20 > 400) {
            return -1;
        }
        for (int word : new int[] {a, b, c, d, e}) {
            tape += "" + (char) (word >>> 24) + (char) (word >> 16 & 255) + (char) (word >> 8 & 255) + (char) (word & 255);
        }
        return tape.length();
    }

    boolean end(int n) {
        if (!in(n, 0, tape.length())) {
            return false;
        }
        tape = tape.substring(0, n);
        return true;
    }

    int text() {
        NamingText.Result result = NamingText.read(once());
        faultWhat = result.fault();
        faultPlace = result.place();
        if (faultWhat != 0) {
            return -1;
        }
        w.naming = new ArrayList<>(result.lines());
        return w.naming.size();
    }

    int fault(int what) {
        return what == 0 ? faultWhat : what == 1 ? faultPlace : -1;
    }

    int person(int sex, int age, int coin) {
        String name = once();
        if (!isName(name) || !in(sex, 0, 1) || !in(age, 0, 99) || !in(coin, 0, 9999) || w.people.size() == 20) {
            return -1;
        }
        w.people.add(new Person(name, sex, age, coin));
        return w.people.size() - 1;
    }

    boolean named(int p) {
        String name = once();
        if (!isName(name) || !isOne(p)) {
            return false;
        }
        w.people.get(p).name = name;
        return true;
    }

    boolean alphabet() {
        String order = once();
        if (!isOrder(order)) {
            return false;
        }
        w.alphabet = order;
        return true;
    }

    boolean set(int what, int v) {
        boolean can = in(what, 0, 1) && in(v, 0, 2) || in(what, 2, 4) && in(v, 0, 99)
                || what == 5 && in(v, 1, 99) || what == 6 && in(v, 0, 2);
        if (can) {
            w.told[what] = v;
        }
        return can;
    }

    boolean site(int s, int side, int first, int less, int many) {
        boolean can = in(s, 0, 5) && in(side, 0, 1) && in(first, -99, 99) && in(less, 0, 99) && in(many, 0, 20);
        if (can) {
            w.sites.put(s, new Site(side, first, less, many));
        }
        return can;
    }

    boolean chance(int i, int weight) {
        String order = once();
        boolean can = isOrder(order) && in(i, 0, 5) && in(weight, 0, 99);
        if (can) {
            w.chances.put(i, new Chance(order, weight));
        }
        return can;
    }

    int of(int p, int what) {
        if (!isOne(p)) {
            return NO_SUCH;
        }
        Person one = w.people.get(p);
        switch (what) {
            case 0:
                return one.sex;
            case 1:
                return one.age;
            case 2:
                return one.coin;
            case 3:
                return one.name.length();
            case 4:
                return listBy(w.alphabet).indexOf(p);
            default:
                return what >= 10 && what - 10 < one.name.length() ? one.name.charAt(what - 10) - 'a' : NO_SUCH;
        }
    }

    int worth(int p, int i) {
        if (!isOne(p) || i != -1 && !w.chances.containsKey(i)) {
            return NO_SUCH;
        }
        return worthOf(p, i == -1 ? w.alphabet : w.chances.get(i).order);
    }

    int expected(int p, int what) {
        if (!isOne(p) || !in(what, 0, 1)) {
            return NO_SUCH;
        }
        int above = 0;
        int below = 0;
        for (Chance c : w.chances.values()) {
            above += worthOf(p, c.order) * c.weight;
            below += c.weight;
        }
        if (below == 0) {
            return 0;
        }
        int part = java.math.BigInteger.valueOf(above).gcd(java.math.BigInteger.valueOf(below)).intValue();
        return what == 0 ? above / part : below / part;
    }

    int with(int p, int what) {
        String name = once();
        if (!isName(name) || !isOne(p) || !in(what, 0, 3)) {
            return NO_SUCH;
        }
        switch (what) {
            case 0:
                return may(p, name) ? 1 : 0;
            case 1:
                return fee(w.people.get(p).name, name);
            case 2:
                return gain(p, name);
            default:
                return worthIfNamed(p, name);
        }
    }

    int sell() {
        String name = once();
        if (!isName(name) || w.market.size() == 10) {
            return -1;
        }
        w.market.add(name);
        return w.market.size() - 1;
    }

    int take(int p, int i) {
        if (!isOne(p) || !in(i, 0, w.market.size() - 1) || !may(p, w.market.get(i))) {
            return -1;
        }
        Person one = w.people.get(p);
        int fee = fee(one.name, w.market.get(i));
        if (one.coin < fee) {
            return -1;
        }
        one.coin -= fee;
        one.name = w.market.get(i);
        return fee;
    }

    int rest(int what) {
        return in(what, 0, 2) ? atRest()[what] : -1;
    }

    int wed(int p, int what) {
        if (!isOne(p) || !in(what, 0, 2)) {
            return NO_SUCH;
        }
        Integer other = weddings().get(p);
        if (other == null) {
            return what == 2 ? 0 : -1;
        }
        int zero = w.people.get(p).sex == 0 ? p : other;
        int one = w.people.get(p).sex == 0 ? other : p;
        int a = worthOf(zero, w.alphabet);
        int b = worthOf(one, w.alphabet);
        return what == 0 ? other : what == 1 ? (a >= b ? zero : one) : Math.max(a, b) - Math.min(a, b);
    }

    int voter(int weight, int price) {
        String order = once();
        if (!isOrder(order) || !in(weight, 1, 9) || !in(price, 0, 999) || w.voters.size() == 12) {
            return -1;
        }
        w.voters.add(new Voter(order, weight, price));
        return w.voters.size() - 1;
    }

    private boolean areLetters(int a, int b) {
        return in(a, 0, w.k - 1) && in(b, 0, w.k - 1) && a != b;
    }

    int over(int a, int b) {
        return areLetters(a, b) ? forOver(w.voters, (char) ('a' + a), (char) ('a' + b)) : -1;
    }

    int vote(int rule, int i) {
        return in(rule, 0, 2) && in(i, 0, w.k - 1) ? orderBy(w.voters, rule).charAt(i) - 'a' : -1;
    }

    int circle() {
        int many = 0;
        for (char a = 'a'; a < 'a' + w.k; a++) {
            many += comesBack(a) ? 1 : 0;
        }
        return many;
    }

    int buy(int a, int b, int rule, int what) {
        if (!areLetters(a, b) || !in(rule, 0, 2) || !in(what, 0, 1)) {
            return -1;
        }
        int[] best = bought((char) ('a' + a), (char) ('a' + b), rule);
        return best == null ? -1 : best[what];
    }

    int harm() {
        String order = once();
        return isOrder(order) ? harmOf(order) : -1;
    }

    int least(int what) {
        if (w.k > 6 || what != 0 && !in(what, 10, 10 + w.k - 1)) {
            return -1;
        }
        String first = null;
        int fewest = 0;
        for (String order : allOrders(w.k)) {
            if (!order.equals(w.alphabet)) {
                int harm = harmOf(order);
                if (first == null || harm < fewest) {
                    first = order;
                    fewest = harm;
                }
            }
        }
        return what == 0 ? fewest : first.charAt(what - 10) - 'a';
    }

    int anew(int what) {
        String order = once();
        if (!isOrder(order) || !in(what, 0, 1)) {
            return -1;
        }
        int stays = staying(order);
        return what == 1 ? stays : w.people.size() - Integer.bitCount(stays);
    }

    int years(int n) {
        if (!in(n, 1, 60)) {
            return -1;
        }
        for (int i = 0; i < n; i++) {
            List<Integer> pay = new ArrayList<>();
            for (int p = 0; p < w.people.size(); p++) {
                pay.add(worthOf(p, w.alphabet));
            }
            for (int p = 0; p < w.people.size(); p++) {
                Person one = w.people.get(p);
                one.coin += pay.get(p);
                one.age++;
                if (one.age > 99) {
                    one.age = 0;
                    if (!w.market.isEmpty()) {
                        w.state = 1664525 * w.state + 1013904223;
                        one.name = w.market.get((w.state >>> 8) % w.market.size());
                    }
                }
            }
            w.years++;
            if (w.years % 10 == 0) {
                w.alphabet = orderBy(w.voters, w.told[6]);
            }
        }
        return w.years;
    }

    boolean image(boolean taken) {
        if (taken) {
            kept = w.copy();
        } else if (kept != null) {
            w = kept.copy();
        }
        return kept != null;
    }

    int look(int what) {
        if (in(what, 20, 26)) {
            return w.told[what - 20];
        }
        if (in(what, 10, 10 + w.k - 1)) {
            return w.alphabet.charAt(what - 10) - 'a';
        }
        int[] first = {w.k, w.people.size(), w.market.size(), w.voters.size(), w.naming.size(), w.years, w.state};
        return in(what, 0, 6) ? first[what] : -1;
    }
}

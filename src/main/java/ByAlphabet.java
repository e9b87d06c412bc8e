/** A land in which everything goes by the alphabet; the document has what each call promises. */
public final class ByAlphabet {
    public static final int NONE = -1;

    private static final int NO_SUCH = NONE - 999999;

    private static final int PEOPLE = 20;
    private static final int SITES = 6;
    private static final int SITE_PARTS = 4;
    private static final int CHANCES = 6;
    private static final int GOODS = 10;
    private static final int VOTERS = 12;
    private static final int FEWEST_LETTERS = 2;
    private static final int MOST_LETTERS = 8;
    private static final int MOST_LETTERS_TRIED = 6;
    private static final int ALL_LETTERS = 26;
    private static final int NAME_LETTERS = 6;
    private static final int TAPE_BYTES = 400;
    private static final int LINES = 16;
    private static final int OPEN_AT_ONCE = 8;
    private static final int ROUNDS = 40;
    // Two for each one that is open, two for its line and four for a comparison are held at once at most.
    private static final int HELD_AT_ONCE = 32;
    private static final int RULES = 3;
    private static final int OLDEST = 99;
    private static final int MOST_YEARS_AT_ONCE = 60;

    private static final int LAW_OF_ABROAD = 0;
    private static final int LAW_OF_TIES = 1;
    private static final int FEE_OF_CHANGE = 2;
    private static final int FEE_OF_TAKE = 3;
    private static final int FEE_OF_DROP = 4;
    private static final int YEARS = 5;
    private static final int RULE_IN_FORCE = 6;
    private static final int SETTINGS = 7;
    private static final int[] LEAST_SETTING = {0, 0, 0, 0, 0, 1, 0};
    private static final int[] GREATEST_SETTING = {2, 2, 99, 99, 99, 99, 2};
    private static final int[] FIRST_SETTING = {0, 0, 1, 1, 1, 1, 0};

    private static final int POINTS = 0;
    private static final int NEAREST = 2;

    // A token below WORD is a NUMBER and stands for itself.
    private static final int WORD = 10000;
    private static final String WORDS =
            "may bar when or and not letters first last like abroad twice age coin sex worth ";
    private static final int MAY = WORD;
    private static final int BAR = WORD + 1;
    private static final int WHEN = WORD + 2;
    private static final int OR = WORD + 3;
    private static final int AND = WORD + 4;
    private static final int NOT = WORD + 5;
    private static final int FIRST_FACT = WORD + 6;
    private static final int LAST_FACT = WORD + 15;
    private static final int SIGN = 10100;
    private static final String SIGNS = ";+-*/()<=>";
    private static final int LINE_END = SIGN;
    private static final int PLUS = SIGN + 1;
    private static final int MINUS = SIGN + 2;
    private static final int TIMES = SIGN + 3;
    private static final int PART = SIGN + 4;
    private static final int OPENING = SIGN + 5;
    private static final int CLOSING = SIGN + 6;
    private static final int BELOW = SIGN + 7;
    private static final int EQUAL = SIGN + 8;
    private static final int ABOVE = SIGN + 9;
    private static final int END = 10200;
    private static final int BAD = 10201;

    private static final int FACTS = 10;
    private static final int LETTERS_FACT = 0;
    private static final int FIRST_PLACE_FACT = 1;
    private static final int LAST_PLACE_FACT = 2;
    private static final int LIKE_FACT = 3;
    private static final int ABROAD_FACT = 4;
    private static final int TWICE_FACT = 5;
    private static final int AGE_FACT = 6;
    private static final int COIN_FACT = 7;
    private static final int SEX_FACT = 8;
    private static final int WORTH_FACT = 9;

    private static final int CANNOT_STAND = 1;
    private static final int PART_BY_ZERO = 2;
    private static final int TOO_MANY = 3;

    private final Tape tape;
    private final Land land;
    private final Land kept;
    private boolean isKept;
    private final Reader reader;
    private final Queue queue;
    private final Judge judge;
    private final Thought thought;
    private final Ballot ballot;
    private final Lists lists;

    public ByAlphabet() {
        tape = new Tape();
        land = new Land();
        kept = new Land();
        isKept = false;
        reader = new Reader();
        queue = new Queue();
        judge = new Judge();
        thought = new Thought();
        ballot = new Ballot();
        lists = new Lists();
    }

    public int state(int v) {
        int before = land.draws;
        land.draws = v;
        return before;
    }

    public boolean letters(int k) {
        if (k < FEWEST_LETTERS || k > MOST_LETTERS) {
            return false;
        }
        land.beginAnew(k);
        return true;
    }

    public int feed(int a, int b, int c, int d, int e) {
        if (tape.length + 20 > TAPE_BYTES) {
            return NONE;
        }
        tape.add(a);
        tape.add(b);
        tape.add(c);
        tape.add(d);
        tape.add(e);
        return tape.length;
    }

    public boolean end(int n) {
        if (n < 0 || n > tape.length) {
            return false;
        }
        tape.length = n;
        return true;
    }

    public int text() {
        boolean fits = reader.read(tape);
        tape.length = 0;
        if (!fits) {
            return NONE;
        }
        land.naming.copyFrom(reader.draft);
        return land.naming.lines;
    }

    public int fault(int what) {
        if (what == 0) {
            return reader.fault;
        }
        return what == 1 ? reader.faultPlace : NONE;
    }

    public int person(int sex, int age, int coin) {
        int name = tape.nameOnce();
        if (name == NONE || sex < 0 || sex > 1 || age < 0 || age > OLDEST || coin < 0 || coin > 9999) {
            return NONE;
        }
        return land.people.add(name, sex, age, coin);
    }

    public boolean named(int p) {
        int name = tape.nameOnce();
        if (name == NONE || !land.people.has(p)) {
            return false;
        }
        land.people.name[p] = name;
        return true;
    }

    public boolean alphabet() {
        int order = tape.orderOnce(land.k);
        if (order == NONE) {
            return false;
        }
        land.alphabet = order;
        return true;
    }

    public boolean set(int what, int v) {
        if (what < 0 || what >= SETTINGS || v < LEAST_SETTING[what] || v > GREATEST_SETTING[what]) {
            return false;
        }
        land.told[what] = v;
        return true;
    }

    public boolean site(int s, int side, int first, int less, int many) {
        if (s < 0 || s >= SITES || side < 0 || side > 1 || first < -99 || first > 99) {
            return false;
        }
        if (less < 0 || less > 99 || many < 0 || many > PEOPLE) {
            return false;
        }
        int at = s * SITE_PARTS;
        land.site[at] = side;
        land.site[at + 1] = first;
        land.site[at + 2] = less;
        land.site[at + 3] = many;
        return true;
    }

    public boolean chance(int i, int weight) {
        int order = tape.orderOnce(land.k);
        if (order == NONE || i < 0 || i >= CHANCES || weight < 0 || weight > 99) {
            return false;
        }
        land.chanceOrder[i] = order;
        land.chanceWeight[i] = weight;
        return true;
    }

    public int of(int p, int what) {
        People people = land.people;
        if (!people.has(p)) {
            return NO_SUCH;
        }
        switch (what) {
            case 0:
                return people.sex[p];
            case 1:
                return people.age[p];
            case 2:
                return people.coin[p];
            case 3:
                return Packed.nameLength(people.name[p]);
            case 4:
                queue.lineUp(land, land.alphabet);
                return queue.place[p];
            default:
                return letterOfName(people.name[p], what);
        }
    }

    private int letterOfName(int name, int what) {
        if (what < 10 || what >= 10 + NAME_LETTERS) {
            return NO_SUCH;
        }
        int letter = Packed.nameLetter(name, what - 10);
        return letter == NONE ? NO_SUCH : letter;
    }

    public int worth(int p, int i) {
        if (!land.people.has(p) || i < NONE || i >= CHANCES) {
            return NO_SUCH;
        }
        int order = i == NONE ? land.alphabet : land.chanceOrder[i];
        return order == NONE ? NO_SUCH : worthBy(p, order);
    }

    private int worthBy(int p, int order) {
        queue.payPlaces(land);
        queue.lineUp(land, order);
        return queue.worthOf(p);
    }

    public int expected(int p, int what) {
        if (!land.people.has(p) || what < 0 || what > 1) {
            return NO_SUCH;
        }
        int sum = 0;
        int weights = 0;
        for (int i = 0; i < CHANCES; i++) {
            if (land.chanceOrder[i] != NONE && land.chanceWeight[i] > 0) {
                sum += worthBy(p, land.chanceOrder[i]) * land.chanceWeight[i];
                weights += land.chanceWeight[i];
            }
        }
        int common = commonPart(Math.abs(sum), weights);
        if (common == 0) {
            return 0;
        }
        return what == 0 ? sum / common : weights / common;
    }

    private static int commonPart(int a, int b) {
        int greater = a;
        int lesser = b;
        for (int i = 0; i < 64 && lesser != 0; i++) {
            int left = greater % lesser;
            greater = lesser;
            lesser = left;
        }
        return greater;
    }

    public int with(int p, int what) {
        int name = tape.nameOnce();
        if (name == NONE || !land.people.has(p) || what < 0 || what > 3) {
            return NO_SUCH;
        }
        queue.payPlaces(land);
        queue.lineUp(land, land.alphabet);
        int now = land.people.name[p];
        int worth = queue.worthOf(p);
        if (what == 0) {
            return judge.allows(land, p, now, name, worth) ? 1 : 0;
        }
        int fee = judge.feeOf(land.told, now, name);
        if (what == 1) {
            return fee;
        }
        int other = queue.worthWith(land, p, name);
        return what == 2 ? land.told[YEARS] * (other - worth) - fee : other;
    }

    public int sell() {
        int name = tape.nameOnce();
        if (name == NONE || land.goods >= GOODS) {
            return NONE;
        }
        land.market[land.goods] = name;
        land.goods++;
        return land.goods - 1;
    }

    public int take(int p, int i) {
        if (!land.people.has(p) || i < 0 || i >= land.goods) {
            return NONE;
        }
        int now = land.people.name[p];
        int name = land.market[i];
        int fee = judge.feeOf(land.told, now, name);
        if (land.people.coin[p] < fee || !judge.allows(land, p, now, name, worthBy(p, land.alphabet))) {
            return NONE;
        }
        land.people.name[p] = name;
        land.people.coin[p] -= fee;
        return fee;
    }

    public int rest(int what) {
        if (what < 0 || what > 2) {
            return NONE;
        }
        thought.goThrough(land, queue, judge);
        if (what == 0) {
            return thought.rounds;
        }
        return what == 1 ? thought.circle : thought.taken;
    }

    public int wed(int p, int what) {
        if (!land.people.has(p) || what < 0 || what > 2) {
            return NO_SUCH;
        }
        queue.payPlaces(land);
        queue.lineUp(land, land.alphabet);
        int other = partnerOf(p);
        if (what == 0) {
            return other;
        }
        if (other == NONE) {
            return what == 1 ? NONE : 0;
        }
        int asking = land.people.sex[p] == 0 ? p : other;
        int asked = asking == p ? other : p;
        int price = queue.worthOf(asking) - queue.worthOf(asked);
        if (what == 1) {
            return price >= 0 ? asking : asked;
        }
        return Math.abs(price);
    }

    // All ask and keep by one and the same measure, so the best weds the best, the second the second, and so on.
    private int partnerOf(int p) {
        int rank = betterOnes(p);
        for (int q = 0; q < land.people.count; q++) {
            if (land.people.sex[q] != land.people.sex[p] && betterOnes(q) == rank) {
                return q;
            }
        }
        return NONE;
    }

    private int betterOnes(int p) {
        int mine = queue.worthOf(p);
        int better = 0;
        for (int q = 0; q < land.people.count; q++) {
            int theirs = queue.worthOf(q);
            if (land.people.sex[q] == land.people.sex[p] && (theirs > mine || theirs == mine && q < p)) {
                better++;
            }
        }
        return better;
    }

    public int voter(int weight, int price) {
        int order = tape.orderOnce(land.k);
        if (order == NONE || weight < 1 || weight > 9 || price < 0 || price > 999) {
            return NONE;
        }
        return land.addVoter(order, weight, price);
    }

    public int over(int a, int b) {
        if (!areTwoLetters(a, b)) {
            return NONE;
        }
        ballot.count(land);
        return ballot.supportOf(a, b);
    }

    private boolean areTwoLetters(int a, int b) {
        return a >= 0 && a < land.k && b >= 0 && b < land.k && a != b;
    }

    public int vote(int rule, int i) {
        if (rule < 0 || rule >= RULES || i < 0 || i >= land.k) {
            return NONE;
        }
        return Packed.orderLetter(ballot.orderBy(land, rule), land.k, i);
    }

    public int circle() {
        ballot.count(land);
        return ballot.lettersInCircles(land.k);
    }

    public int buy(int a, int b, int rule, int what) {
        if (!areTwoLetters(a, b) || rule < 0 || rule >= RULES || what < 0 || what > 1) {
            return NONE;
        }
        ballot.buyCheapest(land, a, b, rule);
        return what == 0 ? ballot.boughtSet : ballot.boughtPrice;
    }

    public int harm() {
        int order = tape.orderOnce(land.k);
        if (order == NONE) {
            return NONE;
        }
        lists.weighPeople(land, queue);
        return lists.harmOf(land, queue, order);
    }

    public int least(int what) {
        if (land.k > MOST_LETTERS_TRIED || what != 0 && (what < 10 || what >= 10 + land.k)) {
            return NONE;
        }
        lists.findLeastHarm(land, queue);
        return what == 0 ? lists.leastHarm : Packed.orderLetter(lists.leastOrder, land.k, what - 10);
    }

    public int anew(int what) {
        int order = tape.orderOnce(land.k);
        if (order == NONE || what < 0 || what > 1) {
            return NONE;
        }
        int stays = lists.whoStays(land, queue, order);
        return what == 0 ? land.people.count - Integer.bitCount(stays) : stays;
    }

    public int years(int n) {
        if (n < 1 || n > MOST_YEARS_AT_ONCE) {
            return NONE;
        }
        for (int i = 0; i < n; i++) {
            passYear();
        }
        return land.years;
    }

    private void passYear() {
        queue.payPlaces(land);
        queue.lineUp(land, land.alphabet);
        for (int p = 0; p < land.people.count; p++) {
            land.people.coin[p] += queue.worthOf(p);
            land.people.age[p]++;
        }
        for (int p = 0; p < land.people.count; p++) {
            if (land.people.age[p] > OLDEST) {
                beBornAnew(p);
            }
        }
        land.years++;
        if (land.years % 10 == 0) {
            land.alphabet = ballot.orderBy(land, land.told[RULE_IN_FORCE]);
        }
    }

    private void beBornAnew(int p) {
        land.people.age[p] = 0;
        if (land.goods > 0) {
            land.people.name[p] = land.market[land.draw(land.goods)];
        }
    }

    public boolean image(boolean taken) {
        if (taken) {
            kept.copyFrom(land);
            isKept = true;
            return true;
        }
        if (!isKept) {
            return false;
        }
        land.copyFrom(kept);
        return true;
    }

    public int look(int what) {
        if (what >= 10 && what < 10 + land.k) {
            return Packed.orderLetter(land.alphabet, land.k, what - 10);
        }
        if (what >= 20 && what < 20 + SETTINGS) {
            return land.told[what - 20];
        }
        switch (what) {
            case 0:
                return land.k;
            case 1:
                return land.people.count;
            case 2:
                return land.goods;
            case 3:
                return land.voters;
            case 4:
                return land.naming.lines;
            case 5:
                return land.years;
            case 6:
                return land.draws;
            default:
                return NONE;
        }
    }

    /**
     * NAMES and ORDERS as single numbers, so that they are copied and compared without making objects.
     * A NAME: six groups of five bits, its first letter highest; a letter is 1 .. 26, 0 stands behind the last.
     * An ORDER of k LETTERS: k groups of three bits, its first LETTER highest; the lesser number is the earlier ORDER.
     */
    private static final class Packed {
        private Packed() {
        }

        static int nameLetter(int name, int i) {
            return (name >> 5 * (NAME_LETTERS - 1 - i) & 31) - 1;
        }

        static int nameLength(int name) {
            int length = 0;
            while (length < NAME_LETTERS && nameLetter(name, length) != NONE) {
                length++;
            }
            return length;
        }

        static int nameGroup(int value, int i) {
            return value << 5 * (NAME_LETTERS - 1 - i);
        }

        static int orderLetter(int order, int k, int i) {
            return order >> 3 * (k - 1 - i) & 7;
        }

        static int orderPlace(int order, int k, int letter) {
            for (int i = 0; i < k; i++) {
                if ((order >> 3 * (k - 1 - i) & 7) == letter) {
                    return i;
                }
            }
            return k;
        }

        static int plainOrder(int k) {
            int order = 0;
            for (int i = 0; i < k; i++) {
                order = order << 3 | i;
            }
            return order;
        }
    }

    /** The TAPE. */
    private static final class Tape {
        final int[] bytes;
        int length;

        Tape() {
            bytes = new int[TAPE_BYTES];
            length = 0;
        }

        void add(int four) {
            for (int shift = 24; shift >= 0 && length < TAPE_BYTES; shift -= 8) {
                bytes[length] = four >>> shift & 255;
                length++;
            }
        }

        // NONE if the TAPE is no NAME; it is empty then in any case.
        int nameOnce() {
            int many = length;
            length = 0;
            if (many > NAME_LETTERS) {
                return NONE;
            }
            int name = 0;
            for (int i = 0; i < many; i++) {
                if (!isSmallLetter(bytes[i])) {
                    return NONE;
                }
                name |= Packed.nameGroup(bytes[i] - 'a' + 1, i);
            }
            return name;
        }

        // NONE if the TAPE is no ORDER of k LETTERS; it is empty then in any case.
        int orderOnce(int k) {
            int many = length;
            length = 0;
            if (many != k) {
                return NONE;
            }
            int order = 0;
            int seen = 0;
            for (int i = 0; i < many; i++) {
                int letter = bytes[i] - 'a';
                if (letter < 0 || letter >= k || (seen >> letter & 1) == 1) {
                    return NONE;
                }
                seen |= 1 << letter;
                order = order << 3 | letter;
            }
            return order;
        }

        static boolean isSmallLetter(int sign) {
            return sign >= 'a' && sign <= 'z';
        }

        // A capital stands together with the letters beside it, though no KEYWORD has one.
        static boolean isLetter(int sign) {
            return isSmallLetter(sign) || sign >= 'A' && sign <= 'Z';
        }

        static boolean isDigit(int sign) {
            return sign >= '0' && sign <= '9';
        }

        static boolean isBlank(int sign) {
            return sign == 32 || sign == 10;
        }
    }

    /** PEOPLE as they come. */
    private static final class People {
        int count;
        final int[] name;
        final int[] sex;
        final int[] age;
        final int[] coin;

        People() {
            count = 0;
            name = new int[PEOPLE];
            sex = new int[PEOPLE];
            age = new int[PEOPLE];
            coin = new int[PEOPLE];
        }

        boolean has(int p) {
            return p >= 0 && p < count;
        }

        int add(int itsName, int itsSex, int itsAge, int itsCoin) {
            if (count >= PEOPLE) {
                return NONE;
            }
            name[count] = itsName;
            sex[count] = itsSex;
            age[count] = itsAge;
            coin[count] = itsCoin;
            count++;
            return count - 1;
        }

        void copyFrom(People other) {
            count = other.count;
            System.arraycopy(other.name, 0, name, 0, PEOPLE);
            System.arraycopy(other.sex, 0, sex, 0, PEOPLE);
            System.arraycopy(other.age, 0, age, 0, PEOPLE);
            System.arraycopy(other.coin, 0, coin, 0, PEOPLE);
        }
    }

    /** All that is and was told but the TAPE and the latest FAULT: what THE IMAGE keeps. */
    private static final class Land {
        int k;
        int draws;
        int alphabet;
        int years;
        final int[] told;
        final People people;
        final int[] site;
        final int[] chanceOrder;
        final int[] chanceWeight;
        int goods;
        final int[] market;
        int voters;
        final int[] voterOrder;
        final int[] voterWeight;
        final int[] voterPrice;
        final Naming naming;

        Land() {
            told = new int[SETTINGS];
            people = new People();
            site = new int[SITES * SITE_PARTS];
            chanceOrder = new int[CHANCES];
            chanceWeight = new int[CHANCES];
            market = new int[GOODS];
            voterOrder = new int[VOTERS];
            voterWeight = new int[VOTERS];
            voterPrice = new int[VOTERS];
            naming = new Naming();
            draws = 0;
            beginAnew(5);
        }

        // STATE goes on over new LETTERS.
        void beginAnew(int letters) {
            k = letters;
            alphabet = Packed.plainOrder(letters);
            years = 0;
            people.count = 0;
            goods = 0;
            voters = 0;
            naming.clear();
            System.arraycopy(FIRST_SETTING, 0, told, 0, SETTINGS);
            for (int i = 0; i < site.length; i++) {
                site[i] = 0;
            }
            for (int i = 0; i < CHANCES; i++) {
                chanceOrder[i] = NONE;
                chanceWeight[i] = 0;
            }
        }

        void copyFrom(Land other) {
            k = other.k;
            draws = other.draws;
            alphabet = other.alphabet;
            years = other.years;
            people.copyFrom(other.people);
            goods = other.goods;
            voters = other.voters;
            naming.copyFrom(other.naming);
            System.arraycopy(other.told, 0, told, 0, SETTINGS);
            System.arraycopy(other.site, 0, site, 0, SITES * SITE_PARTS);
            System.arraycopy(other.chanceOrder, 0, chanceOrder, 0, CHANCES);
            System.arraycopy(other.chanceWeight, 0, chanceWeight, 0, CHANCES);
            System.arraycopy(other.market, 0, market, 0, GOODS);
            System.arraycopy(other.voterOrder, 0, voterOrder, 0, VOTERS);
            System.arraycopy(other.voterWeight, 0, voterWeight, 0, VOTERS);
            System.arraycopy(other.voterPrice, 0, voterPrice, 0, VOTERS);
        }

        int addVoter(int order, int weight, int price) {
            if (voters >= VOTERS) {
                return NONE;
            }
            voterOrder[voters] = order;
            voterWeight[voters] = weight;
            voterPrice[voters] = price;
            voters++;
            return voters - 1;
        }

        int draw(int many) {
            draws = 1664525 * draws + 1013904223;
            return many > 0 ? (draws >>> 8) % many : 0;
        }
    }

    /** NAMING: its lines, each with the tokens of its condition in the order in which they are worked off. */
    private static final class Naming {
        int lines;
        int size;
        final int[] verdict;
        final int[] lineEnd;
        final int[] code;

        Naming() {
            lines = 0;
            size = 0;
            verdict = new int[LINES];
            lineEnd = new int[LINES];
            code = new int[TAPE_BYTES];
        }

        void clear() {
            lines = 0;
            size = 0;
        }

        void copyFrom(Naming other) {
            lines = other.lines;
            size = other.size;
            System.arraycopy(other.verdict, 0, verdict, 0, LINES);
            System.arraycopy(other.lineEnd, 0, lineEnd, 0, LINES);
            System.arraycopy(other.code, 0, code, 0, size);
        }

        // NONE is no token: nothing was waiting.
        void add(int token) {
            if (token != NONE && size < TAPE_BYTES) {
                code[size] = token;
                size++;
            }
        }

        void closeLine(int mayOrBar) {
            if (lines < LINES) {
                verdict[lines] = mayOrBar;
                lineEnd[lines] = size;
                lines++;
            }
        }
    }

    /** Reads the TAPE as NAMING, and keeps the FAULT. */
    private static final class Reader {
        final int[] token;
        final int[] place;
        final Naming draft;
        int at;
        int fault;
        int faultPlace;

        Reader() {
            token = new int[TAPE_BYTES + 1];
            place = new int[TAPE_BYTES + 1];
            draft = new Naming();
            at = 0;
            fault = 0;
            faultPlace = NONE;
        }

        boolean read(Tape tape) {
            split(tape);
            draft.clear();
            at = 0;
            fault = 0;
            faultPlace = NONE;
            for (int i = 0; i < TAPE_BYTES && token[at] != END; i++) {
                if (!readLine()) {
                    return false;
                }
            }
            return true;
        }

        private void split(Tape tape) {
            int many = 0;
            int stop = 0;
            for (int i = 0; i < tape.length && i < TAPE_BYTES; i = Math.max(i + 1, stop)) {
                stop = runEnd(tape, i);
                if (!Tape.isBlank(tape.bytes[i])) {
                    token[many] = tokenOf(tape, i, stop);
                    place[many] = i;
                    many++;
                }
            }
            token[many] = END;
            place[many] = tape.length;
        }

        private static int runEnd(Tape tape, int from) {
            boolean isWord = Tape.isLetter(tape.bytes[from]);
            boolean isNumber = Tape.isDigit(tape.bytes[from]);
            int stop = from + 1;
            while (stop < tape.length && (isWord && Tape.isLetter(tape.bytes[stop])
                    || isNumber && Tape.isDigit(tape.bytes[stop]))) {
                stop++;
            }
            return stop;
        }

        private static int tokenOf(Tape tape, int from, int stop) {
            int sign = tape.bytes[from];
            if (Tape.isLetter(sign)) {
                return wordOf(tape, from, stop);
            }
            if (Tape.isDigit(sign)) {
                return numberOf(tape, from, stop);
            }
            int which = SIGNS.indexOf((char) sign);
            return which < 0 ? BAD : SIGN + which;
        }

        private static int numberOf(Tape tape, int from, int stop) {
            if (stop - from > 4) {
                return BAD;
            }
            int number = 0;
            for (int i = from; i < stop; i++) {
                number = 10 * number + tape.bytes[i] - '0';
            }
            return number;
        }

        private static int wordOf(Tape tape, int from, int stop) {
            int word = WORD;
            int start = 0;
            for (int i = 0; i < WORDS.length(); i++) {
                if (WORDS.charAt(i) == ' ') {
                    if (i - start == stop - from && isSame(tape, from, start, i)) {
                        return word;
                    }
                    word++;
                    start = i + 1;
                }
            }
            return BAD;
        }

        private static boolean isSame(Tape tape, int from, int start, int wordEnd) {
            for (int i = start; i < wordEnd; i++) {
                if (tape.bytes[from + i - start] != WORDS.charAt(i)) {
                    return false;
                }
            }
            return true;
        }

        private boolean fail(int what) {
            fault = what;
            faultPlace = place[at];
            return false;
        }

        private void goOn() {
            if (at < TAPE_BYTES) {
                at++;
            }
        }

        private boolean readLine() {
            int mayOrBar = token[at];
            if (mayOrBar != MAY && mayOrBar != BAR) {
                return fail(CANNOT_STAND);
            }
            if (draft.lines >= LINES) {
                return fail(TOO_MANY);
            }
            goOn();
            if (token[at] == WHEN) {
                goOn();
                if (!readCondition(0)) {
                    return false;
                }
            }
            if (token[at] != LINE_END) {
                return fail(CANNOT_STAND);
            }
            goOn();
            draft.closeLine(mayOrBar);
            return true;
        }

        // B and its As at once: an or waits until all that is joined by and behind it stands.
        private boolean readCondition(int open) {
            if (!readClaim(open)) {
                return false;
            }
            int waiting = NONE;
            for (int i = 0; i < TAPE_BYTES && (token[at] == OR || token[at] == AND); i++) {
                int word = token[at];
                goOn();
                if (word == OR) {
                    draft.add(waiting);
                    waiting = OR;
                }
                if (!readClaim(open)) {
                    return false;
                }
                if (word == AND) {
                    draft.add(AND);
                }
            }
            draft.add(waiting);
            return true;
        }

        private boolean readClaim(int open) {
            int here = token[at];
            if (here == NOT || here == OPENING) {
                if (open >= OPEN_AT_ONCE) {
                    return fail(TOO_MANY);
                }
                goOn();
                return here == NOT ? readDenied(open + 1) : readBracket(open + 1);
            }
            if (!readSum()) {
                return false;
            }
            int sign = token[at];
            if (sign != BELOW && sign != EQUAL && sign != ABOVE) {
                return fail(CANNOT_STAND);
            }
            goOn();
            boolean fits = readSum();
            draft.add(sign);
            return fits;
        }

        private boolean readDenied(int open) {
            boolean fits = readClaim(open);
            draft.add(NOT);
            return fits;
        }

        private boolean readBracket(int open) {
            if (!readCondition(open)) {
                return false;
            }
            if (token[at] != CLOSING) {
                return fail(CANNOT_STAND);
            }
            goOn();
            return true;
        }

        // E and its Ts at once: a + or - waits until all that is joined by * and / behind it stands.
        private boolean readSum() {
            if (!readUnit(NONE)) {
                return false;
            }
            int waiting = NONE;
            for (int i = 0; i < TAPE_BYTES && token[at] >= PLUS && token[at] <= PART; i++) {
                int sign = token[at];
                goOn();
                if (sign == PLUS || sign == MINUS) {
                    draft.add(waiting);
                    waiting = sign;
                }
                if (!readUnit(sign)) {
                    return false;
                }
                if (sign == TIMES || sign == PART) {
                    draft.add(sign);
                }
            }
            draft.add(waiting);
            return true;
        }

        private boolean readUnit(int behind) {
            int here = token[at];
            boolean isNumber = here < WORD;
            boolean isFact = here >= FIRST_FACT && here <= LAST_FACT;
            if (!isNumber && (!isFact || behind == PART)) {
                return fail(CANNOT_STAND);
            }
            if (here == 0 && behind == PART) {
                return fail(PART_BY_ZERO);
            }
            goOn();
            draft.add(here);
            return true;
        }
    }

    /** The QUEUE by an ORDER, and what each place in it gets. */
    private static final class Queue {
        final int[] rank;
        final int[] key;
        final int[] list;
        final int[] place;
        final int[] pay;

        Queue() {
            rank = new int[ALL_LETTERS];
            key = new int[PEOPLE];
            list = new int[PEOPLE];
            place = new int[PEOPLE];
            pay = new int[PEOPLE];
        }

        void payPlaces(Land land) {
            int many = land.people.count;
            for (int i = 0; i < many; i++) {
                pay[i] = 0;
            }
            for (int at = 0; at + SITE_PARTS <= land.site.length; at += SITE_PARTS) {
                boolean isFromBack = land.site[at] == 1;
                for (int i = 0; i < many && i < land.site[at + 3]; i++) {
                    pay[isFromBack ? many - 1 - i : i] += share(land.site[at + 1], i * land.site[at + 2]);
                }
            }
        }

        private static int share(int first, int less) {
            return first > 0 ? Math.max(0, first - less) : Math.min(0, first + less);
        }

        void lineUp(Land land, int order) {
            rankLetters(land, order);
            for (int p = 0; p < land.people.count; p++) {
                key[p] = keyOf(land.people.name[p]);
                int at = p;
                while (at > 0 && isAhead(land, p, list[at - 1])) {
                    list[at] = list[at - 1];
                    at--;
                }
                list[at] = p;
            }
            for (int i = 0; i < land.people.count; i++) {
                place[list[i]] = i;
            }
        }

        // From 1 on, so that the end of a NAME (0) is ahead of every letter; NONE is left out.
        private void rankLetters(Land land, int order) {
            int law = land.told[LAW_OF_ABROAD];
            for (int letter = land.k; letter < ALL_LETTERS; letter++) {
                rank[letter] = law == 2 ? NONE : letter + 1 - (law == 1 ? land.k : 0);
            }
            int ahead = law == 1 ? ALL_LETTERS - land.k : 0;
            for (int i = 0; i < land.k; i++) {
                rank[Packed.orderLetter(order, land.k, i)] = ahead + i + 1;
            }
        }

        int keyOf(int name) {
            int made = 0;
            int at = 0;
            for (int i = 0; i < NAME_LETTERS; i++) {
                int letter = Packed.nameLetter(name, i);
                if (letter >= 0 && letter < ALL_LETTERS && rank[letter] != NONE) {
                    made |= Packed.nameGroup(rank[letter], at);
                    at++;
                }
            }
            return made;
        }

        private boolean isAhead(Land land, int p, int q) {
            if (key[p] != key[q]) {
                return key[p] < key[q];
            }
            int law = land.told[LAW_OF_TIES];
            int mine = law == 0 ? 0 : law == 1 ? land.people.age[p] : land.people.coin[p];
            int theirs = law == 0 ? 0 : law == 1 ? land.people.age[q] : land.people.coin[q];
            return mine == theirs ? p < q : mine > theirs;
        }

        int worthOf(int p) {
            return pay[place[p]];
        }

        // By the keys that stand: the QUEUE need not be lined up anew for one other NAME.
        int worthWith(Land land, int p, int name) {
            int before = key[p];
            key[p] = keyOf(name);
            int ahead = 0;
            for (int q = 0; q < land.people.count; q++) {
                if (q != p && isAhead(land, q, p)) {
                    ahead++;
                }
            }
            key[p] = before;
            return pay[ahead];
        }
    }

    /** Who MAY have which NAME, and its FEE. */
    private static final class Judge {
        final int[] facts;
        final int[] stack;
        final int[] fees;

        Judge() {
            facts = new int[FACTS];
            stack = new int[HELD_AT_ONCE];
            fees = new int[NAME_LETTERS + 1];
        }

        int feeOf(int[] told, int now, int next) {
            int many = Packed.nameLength(next);
            for (int j = 0; j <= many; j++) {
                fees[j] = j * told[FEE_OF_TAKE];
            }
            for (int i = 0; i < Packed.nameLength(now); i++) {
                int corner = fees[0];
                fees[0] += told[FEE_OF_DROP];
                for (int j = 1; j <= many; j++) {
                    boolean isSame = Packed.nameLetter(now, i) == Packed.nameLetter(next, j - 1);
                    int changed = corner + (isSame ? 0 : told[FEE_OF_CHANGE]);
                    corner = fees[j];
                    int moved = Math.min(fees[j] + told[FEE_OF_DROP], fees[j - 1] + told[FEE_OF_TAKE]);
                    fees[j] = Math.min(changed, moved);
                }
            }
            return fees[many];
        }

        boolean allows(Land land, int p, int now, int next, int worth) {
            gatherFacts(land, next);
            facts[LIKE_FACT] = lettersInCommon(now, next);
            facts[AGE_FACT] = land.people.age[p];
            facts[COIN_FACT] = land.people.coin[p];
            facts[SEX_FACT] = land.people.sex[p];
            facts[WORTH_FACT] = worth;
            int from = 0;
            for (int i = 0; i < land.naming.lines; i++) {
                int to = land.naming.lineEnd[i];
                if (from == to || holds(land.naming.code, from, to)) {
                    return land.naming.verdict[i] == MAY;
                }
                from = to;
            }
            return true;
        }

        private void gatherFacts(Land land, int next) {
            int many = Packed.nameLength(next);
            int abroad = 0;
            int twice = 0;
            int seen = 0;
            int firstPlace = land.k + 1;
            int lastPlace = land.k + 1;
            for (int i = 0; i < many; i++) {
                int letter = Packed.nameLetter(next, i);
                abroad += letter >= land.k ? 1 : 0;
                twice |= seen >> letter & 1;
                seen |= 1 << letter;
                lastPlace = Packed.orderPlace(land.alphabet, land.k, letter);
                firstPlace = i == 0 ? lastPlace : firstPlace;
            }
            facts[LETTERS_FACT] = many;
            facts[FIRST_PLACE_FACT] = firstPlace;
            facts[LAST_PLACE_FACT] = lastPlace;
            facts[ABROAD_FACT] = abroad;
            facts[TWICE_FACT] = twice;
        }

        private static int lettersInCommon(int now, int next) {
            int many = Math.min(Packed.nameLength(now), Packed.nameLength(next));
            int common = 0;
            while (common < many && Packed.nameLetter(now, common) == Packed.nameLetter(next, common)) {
                common++;
            }
            return common;
        }

        private boolean holds(int[] code, int from, int to) {
            int top = 0;
            for (int at = from; at < to && top < HELD_AT_ONCE; at++) {
                int token = code[at];
                if (token < WORD) {
                    stack[top] = token;
                    top++;
                } else if (token >= FIRST_FACT && token <= LAST_FACT) {
                    stack[top] = facts[token - FIRST_FACT];
                    top++;
                } else if (token == NOT && top >= 1) {
                    stack[top - 1] = 1 - stack[top - 1];
                } else if (top >= 2) {
                    top--;
                    stack[top - 1] = worked(token, stack[top - 1], stack[top]);
                }
            }
            return top > 0 && stack[top - 1] == 1;
        }

        private static int worked(int token, int a, int b) {
            switch (token) {
                case PLUS:
                    return a + b;
                case MINUS:
                    return a - b;
                case TIMES:
                    return a * b;
                case PART:
                    return b == 0 ? 0 : a / b;
                case BELOW:
                    return a < b ? 1 : 0;
                case EQUAL:
                    return a == b ? 1 : 0;
                case ABOVE:
                    return a > b ? 1 : 0;
                case AND:
                    return a & b;
                default:
                    return a | b;
            }
        }
    }

    /** AT REST: ROUNDS gone through in thought, on NAMES of its own. */
    private static final class Thought {
        final int[] name;
        final int[] earlier;
        int rounds;
        int circle;
        int taken;

        Thought() {
            name = new int[PEOPLE];
            earlier = new int[ROUNDS * PEOPLE];
            rounds = NONE;
            circle = 0;
            taken = 0;
        }

        void goThrough(Land land, Queue queue, Judge judge) {
            int many = land.people.count;
            System.arraycopy(land.people.name, 0, name, 0, many);
            queue.payPlaces(land);
            queue.lineUp(land, land.alphabet);
            rounds = NONE;
            circle = 0;
            taken = 0;
            for (int round = 0; round < ROUNDS; round++) {
                System.arraycopy(name, 0, earlier, round * PEOPLE, many);
                int before = taken;
                goRound(land, queue, judge);
                if (taken == before) {
                    rounds = round;
                    return;
                }
                circle = roundsSinceSame(round, many);
                if (circle > 0) {
                    return;
                }
            }
        }

        private void goRound(Land land, Queue queue, Judge judge) {
            for (int p = 0; p < land.people.count; p++) {
                int choice = bestFor(land, queue, judge, p);
                if (choice != NONE) {
                    name[p] = land.market[choice];
                    queue.key[p] = queue.keyOf(name[p]);
                    taken++;
                }
            }
        }

        private int bestFor(Land land, Queue queue, Judge judge, int p) {
            int worth = queue.worthWith(land, p, name[p]);
            int best = 0;
            int choice = NONE;
            for (int i = 0; i < land.goods; i++) {
                int next = land.market[i];
                int gain = land.told[YEARS] * (queue.worthWith(land, p, next) - worth);
                // The FEE is never below 0: most NAMES are out before it is reckoned.
                if (gain > best) {
                    gain -= judge.feeOf(land.told, name[p], next);
                }
                if (gain > best && judge.allows(land, p, name[p], next, worth)) {
                    best = gain;
                    choice = i;
                }
            }
            return choice;
        }

        // 0 if all NAMES were never so ahead of a round up to this one.
        private int roundsSinceSame(int round, int many) {
            for (int back = round; back >= 0; back--) {
                boolean isSame = true;
                for (int p = 0; p < many && isSame; p++) {
                    isSame = earlier[back * PEOPLE + p] == name[p];
                }
                if (isSame) {
                    return round + 1 - back;
                }
            }
            return 0;
        }
    }

    /** VOTES: who is FOR which LETTER over which, the ORDERS by the RULES, and what is BOUGHT. */
    private static final class Ballot {
        final int[] support;
        final boolean[] reach;
        final int[] bestScore;
        final int[] bestOrder;
        final int[] splitScore;
        final int[] splitOrder;
        final int[] splitSway;
        final int[] passed;
        final int[] original;
        int boughtSet;
        int boughtPrice;

        Ballot() {
            support = new int[MOST_LETTERS * MOST_LETTERS];
            reach = new boolean[MOST_LETTERS * MOST_LETTERS];
            bestScore = new int[1 << MOST_LETTERS];
            bestOrder = new int[1 << MOST_LETTERS];
            splitScore = new int[1 << MOST_LETTERS];
            splitOrder = new int[1 << MOST_LETTERS];
            splitSway = new int[1 << MOST_LETTERS];
            passed = new int[VOTERS * MOST_LETTERS];
            original = new int[MOST_LETTERS * MOST_LETTERS];
            boughtSet = NONE;
            boughtPrice = NONE;
        }

        int supportOf(int a, int b) {
            return support[a * MOST_LETTERS + b];
        }

        private boolean beats(int a, int b) {
            return supportOf(a, b) > supportOf(b, a);
        }

        void count(Land land) {
            for (int i = 0; i < support.length; i++) {
                support[i] = 0;
            }
            for (int v = 0; v < land.voters; v++) {
                for (int i = 0; i < land.k; i++) {
                    int first = Packed.orderLetter(land.voterOrder[v], land.k, i);
                    for (int j = i + 1; j < land.k; j++) {
                        int second = Packed.orderLetter(land.voterOrder[v], land.k, j);
                        support[first * MOST_LETTERS + second] += land.voterWeight[v];
                    }
                }
            }
        }

        int orderBy(Land land, int rule) {
            if (land.voters == 0) {
                return land.alphabet;
            }
            count(land);
            if (rule == NEAREST) {
                findNearest(land.k);
                return bestOrder[(1 << land.k) - 1];
            }
            return orderByMerit(land.k, rule);
        }

        private int orderByMerit(int k, int rule) {
            int order = 0;
            for (int a = 0; a < k; a++) {
                int ahead = 0;
                for (int b = 0; b < k; b++) {
                    if (b != a && isAheadByMerit(b, a, k, rule)) {
                        ahead++;
                    }
                }
                order |= a << 3 * (k - 1 - ahead);
            }
            return order;
        }

        private boolean isAheadByMerit(int a, int b, int k, int rule) {
            int difference = meritOf(a, k, rule) - meritOf(b, k, rule);
            return difference > 0 || difference == 0 && a < b;
        }

        // A LETTER's points are all that is FOR it over others: one WEIGHT for each LETTER behind it.
        private int meritOf(int a, int k, int rule) {
            int merit = 0;
            for (int b = 0; b < k; b++) {
                if (rule == POINTS) {
                    merit += supportOf(a, b);
                } else if (beats(a, b)) {
                    merit++;
                }
            }
            return merit;
        }

        // For each set of LETTERS the nearest ORDER of them alone: one of them first, the nearest of the others behind.
        private void findNearest(int k) {
            bestScore[0] = 0;
            bestOrder[0] = 0;
            for (int some = 1; some < 1 << k; some++) {
                int shift = 3 * (Integer.bitCount(some) - 1);
                bestScore[some] = NONE;
                for (int a = 0; a < k; a++) {
                    if ((some >> a & 1) == 1) {
                        int others = some & ~(1 << a);
                        int score = supportOverAll(a, others, k) + bestScore[others];
                        if (score > bestScore[some]) {
                            bestScore[some] = score;
                            bestOrder[some] = a << shift | bestOrder[others];
                        }
                    }
                }
            }
        }

        private int supportOverAll(int a, int others, int k) {
            int sum = 0;
            for (int b = 0; b < k; b++) {
                if ((others >> b & 1) == 1) {
                    sum += supportOf(a, b);
                }
            }
            return sum;
        }

        int lettersInCircles(int k) {
            for (int a = 0; a < k; a++) {
                for (int b = 0; b < k; b++) {
                    reach[a * MOST_LETTERS + b] = beats(a, b);
                }
            }
            for (int over = 0; over < k; over++) {
                for (int a = 0; a < k; a++) {
                    for (int b = 0; b < k; b++) {
                        reach[a * MOST_LETTERS + b] |= reach[a * MOST_LETTERS + over] && reach[over * MOST_LETTERS + b];
                    }
                }
            }
            int many = 0;
            for (int a = 0; a < k; a++) {
                many += reach[a * MOST_LETTERS + a] ? 1 : 0;
            }
            return many;
        }

        void buyCheapest(Land land, int a, int b, int rule) {
            boughtSet = NONE;
            boughtPrice = NONE;
            if (land.voters == 0) {
                buyWithoutVoters(land, a, b);
                return;
            }
            count(land);
            System.arraycopy(support, 0, original, 0, support.length);
            notePassed(land, a);
            if (rule == NEAREST) {
                splitAround(land.k, a);
            }
            for (int set = 0; set < 1 << land.voters; set++) {
                int price = priceOf(land, set);
                if (isCheaper(set, price)) {
                    sway(land, set, a);
                    if (rule == NEAREST ? isAheadByNearest(land.k, a, b) : isAheadByMerit(a, b, land.k, rule)) {
                        boughtSet = set;
                        boughtPrice = price;
                    }
                }
            }
        }

        private void buyWithoutVoters(Land land, int a, int b) {
            if (Packed.orderPlace(land.alphabet, land.k, a) < Packed.orderPlace(land.alphabet, land.k, b)) {
                boughtSet = 0;
                boughtPrice = 0;
            }
        }

        private static int priceOf(Land land, int set) {
            int price = 0;
            for (int v = 0; v < land.voters; v++) {
                price += (set >> v & 1) * land.voterPrice[v];
            }
            return price;
        }

        // Sets come with growing numbers: among those alike the first stays.
        private boolean isCheaper(int set, int price) {
            if (boughtSet == NONE || price != boughtPrice) {
                return boughtSet == NONE || price < boughtPrice;
            }
            return Integer.bitCount(set) < Integer.bitCount(boughtSet);
        }

        // What LETTER a gains over each other one from a VOTER who puts it first.
        private void notePassed(Land land, int a) {
            for (int v = 0; v < land.voters; v++) {
                boolean isAheadOfA = true;
                for (int i = 0; i < land.k; i++) {
                    int letter = Packed.orderLetter(land.voterOrder[v], land.k, i);
                    isAheadOfA &= letter != a;
                    passed[v * MOST_LETTERS + letter] = isAheadOfA ? land.voterWeight[v] : 0;
                }
            }
        }

        // Only what is FOR and against LETTER a is changed by those who put it first.
        private void sway(Land land, int set, int a) {
            for (int b = 0; b < land.k; b++) {
                int more = 0;
                for (int v = 0; v < land.voters; v++) {
                    more += (set >> v & 1) * passed[v * MOST_LETTERS + b];
                }
                support[a * MOST_LETTERS + b] = original[a * MOST_LETTERS + b] + more;
                support[b * MOST_LETTERS + a] = original[b * MOST_LETTERS + a] - more;
            }
        }

        // The nearest ORDER with just these LETTERS ahead of a: what it has without a is the same for all sets of VOTERS.
        private void splitAround(int k, int a) {
            findNearest(k);
            int all = (1 << k) - 1 & ~(1 << a);
            for (int ahead = 0; ahead <= all; ahead++) {
                if ((ahead & ~all) == 0) {
                    int behind = all & ~ahead;
                    int shift = 3 * Integer.bitCount(behind);
                    splitScore[ahead] = bestScore[ahead] + bestScore[behind] + supportAcross(ahead, behind, k);
                    splitOrder[ahead] = bestOrder[ahead] << shift + 3 | a << shift | bestOrder[behind];
                }
            }
        }

        private int supportAcross(int ahead, int behind, int k) {
            int sum = 0;
            for (int a = 0; a < k; a++) {
                if ((ahead >> a & 1) == 1) {
                    sum += supportOverAll(a, behind, k);
                }
            }
            return sum;
        }

        private boolean isAheadByNearest(int k, int a, int b) {
            int all = (1 << k) - 1 & ~(1 << a);
            int best = 0;
            splitSway[0] = 0;
            for (int ahead = 1; ahead <= all; ahead++) {
                if ((ahead & ~all) == 0) {
                    splitSway[ahead] = swayOf(ahead, a);
                    int more = splitScore[ahead] + splitSway[ahead] - splitScore[best] - splitSway[best];
                    if (more > 0 || more == 0 && splitOrder[ahead] < splitOrder[best]) {
                        best = ahead;
                    }
                }
            }
            return (best >> b & 1) == 0;
        }

        // Against what it would be with all of them behind a; the sum without the lowest LETTER stands already.
        private int swayOf(int ahead, int a) {
            int fewer = ahead & ahead - 1;
            int letter = Integer.bitCount((ahead ^ fewer) - 1);
            return splitSway[fewer] + supportOf(letter, a) - supportOf(a, letter);
        }
    }

    /** HARM of ORDERS, and lists SORTED ANEW. */
    private static final class Lists {
        final int[] had;
        final int[] share;
        final int[] row;
        final int[] before;
        final int[] length;
        int leastHarm;
        int leastOrder;

        Lists() {
            had = new int[PEOPLE];
            share = new int[PEOPLE];
            row = new int[MOST_LETTERS];
            before = new int[PEOPLE];
            length = new int[PEOPLE];
            leastHarm = NONE;
            leastOrder = 0;
        }

        void weighPeople(Land land, Queue queue) {
            int many = land.people.count;
            queue.payPlaces(land);
            queue.lineUp(land, land.alphabet);
            for (int p = 0; p < many; p++) {
                had[p] = queue.worthOf(p);
            }
            for (int p = 0; p < many; p++) {
                share[p] = many;
                for (int q = 0; q < many; q++) {
                    if (had[q] < had[p] || had[q] == had[p] && q < p) {
                        share[p]--;
                    }
                }
            }
        }

        int harmOf(Land land, Queue queue, int order) {
            queue.lineUp(land, order);
            int harm = 0;
            for (int p = 0; p < land.people.count; p++) {
                harm += Math.max(0, had[p] - queue.worthOf(p)) * share[p];
            }
            return harm;
        }

        void findLeastHarm(Land land, Queue queue) {
            weighPeople(land, queue);
            leastHarm = NONE;
            leastOrder = land.alphabet;
            for (int i = 0; i < land.k; i++) {
                row[i] = i;
            }
            boolean isMore = true;
            for (int tried = 0; tried < 720 && isMore; tried++) {
                int order = packedRow(land.k);
                if (order != land.alphabet) {
                    int harm = harmOf(land, queue, order);
                    if (leastHarm == NONE || harm < leastHarm) {
                        leastHarm = harm;
                        leastOrder = order;
                    }
                }
                isMore = nextRow(land.k);
            }
        }

        private int packedRow(int k) {
            int order = 0;
            for (int i = 0; i < k; i++) {
                order = order << 3 | row[i];
            }
            return order;
        }

        // False behind the last one.
        private boolean nextRow(int k) {
            int from = k - 2;
            while (from >= 0 && row[from] > row[from + 1]) {
                from--;
            }
            if (from < 0) {
                return false;
            }
            int with = k - 1;
            while (with > from && row[with] < row[from]) {
                with--;
            }
            swap(from, with);
            for (int i = from + 1, j = k - 1; i < j; i++, j--) {
                swap(i, j);
            }
            return true;
        }

        private void swap(int i, int j) {
            int held = row[i];
            row[i] = row[j];
            row[j] = held;
        }

        // Those with great numbers go first, as far as as many can stay without them.
        int whoStays(Land land, Queue queue, int order) {
            int many = land.people.count;
            queue.lineUp(land, land.alphabet);
            System.arraycopy(queue.list, 0, before, 0, many);
            queue.lineUp(land, order);
            int stays = (1 << many) - 1;
            int most = mostInOrder(queue, many, stays);
            for (int p = many - 1; p >= 0; p--) {
                int fewer = stays & ~(1 << p);
                if (mostInOrder(queue, many, fewer) == most) {
                    stays = fewer;
                }
            }
            return stays;
        }

        private int mostInOrder(Queue queue, int many, int among) {
            int most = 0;
            for (int i = 0; i < many; i++) {
                length[i] = 0;
                if ((among >> before[i] & 1) == 1) {
                    for (int j = 0; j < i; j++) {
                        if (queue.place[before[j]] < queue.place[before[i]]) {
                            length[i] = Math.max(length[i], length[j]);
                        }
                    }
                    length[i]++;
                    most = Math.max(most, length[i]);
                }
            }
            return most;
        }
    }
}

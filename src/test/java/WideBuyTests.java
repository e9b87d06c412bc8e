import java.util.ArrayList;
import java.util.List;
import java.util.Random;

/** BOUGHT by the nearest ORDER with many LETTERS and VOTERS: all ORDERS are gone through for all sets of VOTERS. */
public final class WideBuyTests {
    private static final Check CHECK = new Check();

    private final int k;
    private final List<int[]> orders = new ArrayList<>();
    private final int[][] voter;
    private final int[] weight;
    private final int[] price;
    private final int[][] table;

    private WideBuyTests(int k, int voters) {
        this.k = k;
        voter = new int[voters][];
        weight = new int[voters];
        price = new int[voters];
        table = new int[k][k];
        extend(new int[k], 0, 0);
    }

    public static void main(String[] args) {
        Random random = new Random(11);
        for (int run = 0; run < 6; run++) {
            new WideBuyTests(7, 12).compare(random, "7 letters, run " + run);
        }
        new WideBuyTests(8, 12).compare(random, "8 letters");
        CHECK.finish();
    }

    private void extend(int[] begun, int many, int used) {
        if (many == k) {
            orders.add(begun.clone());
            return;
        }
        for (int letter = 0; letter < k; letter++) {
            if ((used >> letter & 1) == 0) {
                begun[many] = letter;
                extend(begun, many + 1, used | 1 << letter);
            }
        }
    }

    // Small weights and prices, so that many orders and many sets are alike.
    private void compare(Random random, String run) {
        ByAlphabet x = new ByAlphabet();
        x.letters(k);
        for (int v = 0; v < voter.length; v++) {
            voter[v] = orders.get(random.nextInt(v % 3 == 0 ? 24 : orders.size()));
            weight[v] = 1 + random.nextInt(2);
            price[v] = random.nextInt(4);
            StringBuilder told = new StringBuilder();
            for (int letter : voter[v]) {
                told.append((char) ('a' + letter));
            }
            Check.tell(x, told.toString());
            CHECK.due(run + ": voter", x.voter(weight[v], price[v]), v);
        }
        int a = x.vote(2, k - 1);
        int b = x.vote(2, random.nextInt(k - 2));
        int set = cheapest(a, b);
        CHECK.due(run + ": the set for " + a + " ahead of " + b, x.buy(a, b, 2, 0), set);
        CHECK.due(run + ": its price", x.buy(a, b, 2, 1), set < 0 ? -1 : priceOf(set));
        CHECK.due(run + ": the last letter is not ahead for nothing", set != 0, true);
    }

    private int cheapest(int a, int b) {
        int best = -1;
        for (int set = 0; set < 1 << voter.length; set++) {
            int more = best < 0 ? -1 : priceOf(set) - priceOf(best);
            boolean isBetter = more < 0 || more == 0 && Integer.bitCount(set) < Integer.bitCount(best);
            if (isBetter && isAhead(a, b, nearest(set, a))) {
                best = set;
            }
        }
        return best;
    }

    private int priceOf(int set) {
        int sum = 0;
        for (int v = 0; v < voter.length; v++) {
            sum += (set >> v & 1) == 1 ? price[v] : 0;
        }
        return sum;
    }

    private int[] nearest(int set, int a) {
        for (int[] row : table) {
            java.util.Arrays.fill(row, 0);
        }
        for (int v = 0; v < voter.length; v++) {
            int[] order = (set >> v & 1) == 1 ? withFirst(voter[v], a) : voter[v];
            for (int i = 0; i < k; i++) {
                for (int j = i + 1; j < k; j++) {
                    table[order[i]][order[j]] += weight[v];
                }
            }
        }
        int[] best = null;
        int most = -1;
        for (int[] order : orders) {
            int agrees = 0;
            for (int i = 0; i < k; i++) {
                for (int j = i + 1; j < k; j++) {
                    agrees += table[order[i]][order[j]];
                }
            }
            if (agrees > most) {
                most = agrees;
                best = order;
            }
        }
        return best;
    }

    private static int[] withFirst(int[] order, int a) {
        int[] made = new int[order.length];
        made[0] = a;
        int many = 1;
        for (int letter : order) {
            if (letter != a) {
                made[many] = letter;
                many++;
            }
        }
        return made;
    }

    private static boolean isAhead(int a, int b, int[] order) {
        for (int letter : order) {
            if (letter == a || letter == b) {
                return letter == a;
            }
        }
        return false;
    }
}

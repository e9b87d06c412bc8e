import java.io.IOException;
import java.lang.reflect.Method;
import java.lang.reflect.Modifier;
import java.nio.file.DirectoryStream;
import java.nio.file.Files;
import java.nio.file.Path;
import java.util.ArrayList;
import java.util.List;

/** README.md: its example with the answers it tells, and that it leaves out no call and no test. */
public final class ReadmeTests {
    private static final Check CHECK = new Check();

    public static void main(String[] args) throws IOException {
        String readme = Files.readString(Path.of("README.md"));
        example();
        theExampleIsThatOf(readme);
        everyCallIsNamed(readme);
        everyTestIsNamed(readme);
        CHECK.finish();
    }

    private static void due(String what, int got, int want) {
        CHECK.due("README's example, " + what, got, want);
    }

    static void tell(ByAlphabet land, String text) {
        for (int i = 0; i < text.length(); i += 20) {
            int[] five = new int[5];
            for (int j = 0; j < 20; j++) {
                five[j / 4] = five[j / 4] << 8 | (i + j < text.length() ? text.charAt(i + j) & 255 : ' ');
            }
            land.feed(five[0], five[1], five[2], five[3], five[4]);
        }
        land.end(text.length());
    }

    private static void example() {
        ByAlphabet land = new ByAlphabet();              // five letters: a, b, c, d, e
        due("letters", land.look(0), 5);
        tell(land, "ab");
        int ann = land.person(0, 30, 10);                // 0: sex 0, 30 years old, 10 coin
        due("ann", ann, 0);
        tell(land, "ba");
        int bob = land.person(1, 20, 5);                 // 1
        due("bob", bob, 1);
        land.site(0, 0, 10, 3, 5);                       // from the front, 10 for the first, 3 less for each next, five of them
        int worth = land.worth(bob, ByAlphabet.NONE);    // 7: bob is second by the alphabet
        due("worth", worth, 7);

        tell(land, "bacde");
        land.chance(0, 2);
        tell(land, "abcde");
        land.chance(1, 1);
        int above = land.expected(bob, 0);               // 9: two times 10 and one time 7, by 3
        due("above", above, 9);
        int below = land.expected(bob, 1);               // 1
        due("below", below, 1);

        tell(land, "bar when letters < 1; may when like > 0 or coin > 4; bar;");
        int lines = land.text();                         // 3; NONE at a fault: fault(0) tells which, fault(1) where
        due("lines", lines, 3);
        tell(land, "a");
        int gain = land.with(bob, 2);                    // 2: 10 instead of 7, less a fee of 1 for the letter dropped
        due("gain", gain, 2);
        tell(land, "a");
        int good = land.sell();                          // 0, its number in the market
        due("good", good, 0);
        int rounds = land.rest(0);                       // 2: bob takes it, ann then too, and the third round changes nothing
        due("rounds", rounds, 2);
        int price = land.wed(bob, 2);                    // 3: a couple with the name of ann
        due("price", price, 3);
        due("whose name", land.wed(bob, 1), ann);

        tell(land, "bacde");
        land.voter(3, 10);
        tell(land, "abcde");
        land.voter(2, 5);
        int first = land.vote(0, 0);                     // 1: b by points
        due("first", first, 1);
        int cost = land.buy(0, 1, 0, 1);                 // 10: voter 0 is bought to have a ahead of b
        due("cost", cost, 10);
        due("who is bought", land.buy(0, 1, 0, 0), 1);
        tell(land, "bacde");
        int harm = land.harm();                          // 3: ann loses 3, times 1, for nobody was better off
        due("harm", harm, 3);
        tell(land, "bacde");
        int moves = land.anew(0);                        // 1
        due("moves", moves, 1);

        land.image(true);
        int fee = land.take(bob, 0);                     // 1, paid
        due("fee", fee, 1);
        due("paid", land.of(bob, 2), 4);
        int years = land.years(10);                      // 10; the alphabet is then what the vote makes it
        due("years", years, 10);
        int letter = land.look(10);                      // 1: b is the first letter of it
        due("letter", letter, 1);
        land.image(false);                               // all is as it was when the image was taken
        due("coin again", land.of(bob, 2), 5);
        due("years again", land.look(5), 0);
        due("the first letter again", land.look(10), 0);
    }

    /** Each line of README's Java stands here too, in the same order: so what is tested here is what is told there. */
    private static void theExampleIsThatOf(String readme) throws IOException {
        List<String> here = Files.readAllLines(Path.of("src/test/java/ReadmeTests.java"));
        int at = 0;
        for (String line : javaLines(readme)) {
            int found = at;
            while (found < here.size() && !here.get(found).strip().equals(line.strip())) {
                found++;
            }
            CHECK.due("a line of README's example that is not tested: " + line, found < here.size(), true);
            at = found < here.size() ? found + 1 : at;
        }
        CHECK.due("README has an example", at > 0, true);
    }

    private static List<String> javaLines(String readme) {
        List<String> lines = new ArrayList<>();
        boolean isJava = false;
        for (String line : readme.split("\n")) {
            if (line.startsWith("```")) {
                isJava = line.equals("```java");
            } else if (isJava && !line.isBlank()) {
                lines.add(line);
            }
        }
        return lines;
    }

    private static void everyCallIsNamed(String readme) {
        for (Method method : ByAlphabet.class.getDeclaredMethods()) {
            if (Modifier.isPublic(method.getModifiers())) {
                boolean isNamed = readme.contains("`" + method.getName() + "` (");
                CHECK.due("README names " + method.getName(), isNamed, true);
            }
        }
    }

    private static void everyTestIsNamed(String readme) throws IOException {
        try (DirectoryStream<Path> tests = Files.newDirectoryStream(Path.of("src/test/java"), "*Tests.java")) {
            for (Path test : tests) {
                String name = test.getFileName().toString().replace(".java", "");
                CHECK.due("README names " + name, readme.contains("`" + name + "`"), true);
            }
        }
    }
}

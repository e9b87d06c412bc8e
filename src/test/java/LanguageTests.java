import java.io.IOException;
import java.lang.reflect.Constructor;
import java.lang.reflect.Field;
import java.lang.reflect.Method;
import java.lang.reflect.Modifier;
import java.nio.file.Files;
import java.nio.file.Path;
import java.util.ArrayList;
import java.util.Arrays;
import java.util.List;
import java.util.TreeSet;
import java.util.regex.Matcher;
import java.util.regex.Pattern;

/** The rules of LANGUAGE.md that can be read off the source and off the class. */
public final class LanguageTests {
    private static final Check CHECK = new Check();
    private static final String FACE = "alphabet() anew(int) buy(int,int,int,int) chance(int,int) circle() end(int) "
            + "expected(int,int) fault(int) feed(int,int,int,int,int) harm() image(boolean) least(int) letters(int) "
            + "look(int) named(int) of(int,int) over(int,int) person(int,int,int) rest(int) sell() set(int,int) "
            + "site(int,int,int,int,int) state(int) take(int,int) text() vote(int,int) voter(int,int) wed(int,int) "
            + "with(int,int) worth(int,int) years(int)";

    public static void main(String[] args) throws IOException {
        String source = Files.readString(Path.of("src/main/java/ByAlphabet.java"));
        banned(withoutTexts(source));
        lengths(source);
        face();
        for (Class<?> nested : ByAlphabet.class.getDeclaredClasses()) {
            nestedClass(nested);
        }
        CHECK.due("classes", ByAlphabet.class.getDeclaredClasses().length <= 12 ? 1 : 0, 1);
        CHECK.finish();
    }

    private static String withoutTexts(String source) {
        return source.replaceAll("(?s)/\\*.*?\\*/", "").replaceAll("//[^\n]*", "").replaceAll("\"[^\"]*\"", "\"\"");
    }

    private static void banned(String code) {
        String[] patterns = {"\\bthrow\\b", "\\bthrows\\b", "\\btry\\b", "\\bcatch\\b", "\\bfinally\\b", "\\bsynchronized\\b",
            "\\bassert\\b", "->", "::", "\\bimport\\b", "\\bpackage\\b", "Exact\\b", "\\bstatic\\s*\\{", "\\bnative\\b",
            "\\bvolatile\\b", "\\bThread\\b", "\\bSystem\\.(?!arraycopy\\b)", "\\bprotected\\b", "\\[\\]\\[\\]\\[\\]",
            "\\bdouble\\b", "\\bfloat\\b", "while \\(true\\)", "for \\(;;\\)", "@", "\\bequals\\b", "\\bhashCode\\b",
            "\\btoString\\b"};
        for (String pattern : patterns) {
            Matcher found = Pattern.compile(pattern).matcher(code);
            CHECK.due("the source has " + pattern, found.find() ? 1 : 0, 0);
        }
        Matcher made = Pattern.compile("\\bnew\\s+(\\w+)").matcher(code);
        while (made.find()) {
            int line = code.lastIndexOf('\n', made.start());
            String before = code.substring(line + 1, made.start());
            // Objects are made in constructors alone, as fields: '            field = new ..'.
            CHECK.due("made outside a constructor: " + before + made.group(), before.matches(" {8,12}\\w+ = ") ? 1 : 0, 1);
        }
    }

    private static void lengths(String source) {
        int method = 0;
        int longest = 0;
        for (String line : source.split("\n")) {
            CHECK.due("a line of over 125 signs: " + line, line.length() <= 125 ? 1 : 0, 1);
            boolean begins = line.matches(" {4}( {4})?(public |private |static |final )*[\\w\\[\\]]+ ?\\w*\\(.*\\) \\{");
            method = begins ? 0 : method + 1;
            longest = line.matches(" {4}( {4})?\\}") ? Math.max(longest, method) : longest;
        }
        CHECK.due("a method of over sixty lines", longest <= 60 ? 1 : 0, 1);
    }

    private static void face() {
        TreeSet<String> open = new TreeSet<>();
        List<String> hidden = new ArrayList<>();
        for (Method m : ByAlphabet.class.getDeclaredMethods()) {
            if (m.isSynthetic()) {
                continue;
            }
            if (Modifier.isPublic(m.getModifiers())) {
                StringBuilder s = new StringBuilder(m.getName()).append('(');
                for (Class<?> c : m.getParameterTypes()) {
                    s.append(s.charAt(s.length() - 1) == '(' ? "" : ",").append(c.getName());
                }
                open.add(s.append(')').toString());
            } else {
                CHECK.due(m + " is private", Modifier.isPrivate(m.getModifiers()) ? 1 : 0, 1);
                hidden.add(m.getName());
            }
        }
        CHECK.due("the face " + open, String.join(" ", open).equals(FACE) ? 1 : 0, 1);
        for (String name : hidden) {
            CHECK.due(name + " is a public one's name", Arrays.asList(FACE.split("\\([^ ]*\\)? ?")).contains(name) ? 1 : 0, 0);
        }
        Constructor<?>[] constructors = ByAlphabet.class.getDeclaredConstructors();
        CHECK.due("constructors", constructors.length, 1);
        CHECK.due("it is public", Modifier.isPublic(constructors[0].getModifiers()) ? 1 : 0, 1);
        CHECK.due("final", Modifier.isFinal(ByAlphabet.class.getModifiers()) ? 1 : 0, 1);
        fields(ByAlphabet.class);
        for (Field f : ByAlphabet.class.getDeclaredFields()) {
            boolean isNone = f.getName().equals("NONE");
            CHECK.due(f + " is open", Modifier.isPublic(f.getModifiers()) ? 1 : 0, isNone ? 1 : 0);
            CHECK.due(f + " is private", Modifier.isPrivate(f.getModifiers()) ? 1 : 0, isNone ? 0 : 1);
        }
    }

    private static void fields(Class<?> type) {
        int own = 0;
        for (Field f : type.getDeclaredFields()) {
            if (Modifier.isStatic(f.getModifiers())) {
                CHECK.due(f + " is final", Modifier.isFinal(f.getModifiers()) ? 1 : 0, 1);
            } else {
                own++;
            }
        }
        CHECK.due("fields of " + type, own <= 20 ? 1 : 0, 1);
    }

    private static void nestedClass(Class<?> type) {
        CHECK.due(type + " is static", Modifier.isStatic(type.getModifiers()) ? 1 : 0, 1);
        CHECK.due(type + " is open", Modifier.isPublic(type.getModifiers()) ? 1 : 0, 0);
        fields(type);
        for (Method m : type.getDeclaredMethods()) {
            CHECK.due(m + " has too many parameters", m.getParameterCount() <= 7 ? 1 : 0, 1);
            CHECK.due(m + " is named as a public one",
                    Arrays.asList(FACE.split("\\([^ ]*\\)? ?")).contains(m.getName()) ? 1 : 0, 0);
        }
    }
}

import java.util.ArrayList;
import java.util.List;
import java.util.Map;

/** The document's grammar of NAMING, rule by rule, with exceptions for FAULTS. */
final class NamingText {
    interface Truth {
        boolean holds(Map<String, Integer> facts);
    }

    interface Value {
        int of(Map<String, Integer> facts);
    }

    record Line(boolean may, Truth when) { }

    record Result(List<Line> lines, int fault, int place) { }

    private static final class Fault extends RuntimeException {
        private static final long serialVersionUID = 1L;
        final int what;
        final int place;

        Fault(int what, int place) {
            this.what = what;
            this.place = place;
        }
    }

    private static final List<String> VALUES = List.of("letters", "first", "last", "like", "abroad", "twice",
            "age", "coin", "sex", "worth");
    private static final List<String> WORDS = List.of("may", "bar", "when", "or", "and", "not");

    private final String text;
    private int at;
    private int open;

    private NamingText(String text) {
        this.text = text;
    }

    static Result read(String text) {
        NamingText reader = new NamingText(text);
        List<Line> lines = new ArrayList<>();
        try {
            while (!reader.peek().isEmpty()) {
                reader.line(lines);
            }
            return new Result(lines, 0, -1);
        } catch (Fault f) {
            return new Result(null, f.what, f.place);
        }
    }

    private void skip() {
        while (at < text.length() && (text.charAt(at) == ' ' || text.charAt(at) == '\n')) {
            at++;
        }
    }

    /** The next token; "" is the end, "?" what is none. */
    private String peek() {
        skip();
        if (at >= text.length()) {
            return "";
        }
        int stop = at;
        while (stop < text.length() && String.valueOf(text.charAt(stop)).matches("[A-Za-z]")) {
            stop++;
        }
        if (stop > at) {
            String word = text.substring(at, stop);
            return VALUES.contains(word) || WORDS.contains(word) ? word : "?";
        }
        while (stop < text.length() && text.charAt(stop) >= '0' && text.charAt(stop) <= '9') {
            stop++;
        }
        if (stop > at) {
            return stop - at <= 4 ? text.substring(at, stop) : "?";
        }
        return ";+-*/()<=>".indexOf(text.charAt(at)) >= 0 ? text.substring(at, at + 1) : "?";
    }

    private boolean sees(String token) {
        return peek().equals(token);
    }

    private void go() {
        at += peek().length();
    }

    private Fault cannotStand() {
        skip();
        return new Fault(1, at);
    }

    private void need(String token) {
        if (!sees(token)) {
            throw cannotStand();
        }
        go();
    }

    private void line(List<Line> lines) {
        if (!sees("may") && !sees("bar")) {
            throw cannotStand();
        }
        boolean may = sees("may");
        if (lines.size() == 16) {
            throw new Fault(3, at);
        }
        go();
        Truth when = null;
        if (sees("when")) {
            go();
            when = b();
        }
        need(";");
        lines.add(new Line(may, when));
    }

    private Truth b() {
        Truth left = a();
        while (sees("or")) {
            go();
            Truth x = left;
            Truth y = a();
            left = f -> x.holds(f) || y.holds(f);
        }
        return left;
    }

    private Truth a() {
        Truth left = c();
        while (sees("and")) {
            go();
            Truth x = left;
            Truth y = c();
            left = f -> x.holds(f) && y.holds(f);
        }
        return left;
    }

    private Truth c() {
        if (sees("not") || sees("(")) {
            boolean isNot = sees("not");
            if (open == 8) {
                throw new Fault(3, at);
            }
            open++;
            go();
            Truth inside = isNot ? c() : b();
            if (!isNot) {
                need(")");
            }
            open--;
            return isNot ? f -> !inside.holds(f) : inside;
        }
        Value x = e();
        String sign = peek();
        if (!sign.equals("<") && !sign.equals("=") && !sign.equals(">")) {
            throw cannotStand();
        }
        go();
        Value y = e();
        return sign.equals("<") ? f -> x.of(f) < y.of(f) : sign.equals("=") ? f -> x.of(f) == y.of(f)
                : f -> x.of(f) > y.of(f);
    }

    private Value e() {
        Value left = t();
        while (sees("+") || sees("-")) {
            boolean plus = sees("+");
            go();
            Value x = left;
            Value y = t();
            left = plus ? f -> x.of(f) + y.of(f) : f -> x.of(f) - y.of(f);
        }
        return left;
    }

    private Value t() {
        Value left = u();
        while (sees("*") || sees("/")) {
            boolean times = sees("*");
            go();
            Value x = left;
            if (times) {
                Value y = u();
                left = f -> x.of(f) * y.of(f);
            } else {
                if (!isNumber()) {
                    throw cannotStand();
                }
                int part = Integer.parseInt(peek());
                if (part == 0) {
                    throw new Fault(2, at);
                }
                go();
                left = f -> x.of(f) / part;
            }
        }
        return left;
    }

    private boolean isNumber() {
        return peek().matches("[0-9]+");
    }

    private Value u() {
        if (isNumber()) {
            int number = Integer.parseInt(peek());
            go();
            return f -> number;
        }
        String word = peek();
        if (!VALUES.contains(word)) {
            throw cannotStand();
        }
        go();
        return f -> f.get(word);
    }
}

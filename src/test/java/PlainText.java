import java.util.ArrayList;
import java.util.Arrays;
import java.util.LinkedHashSet;
import java.util.List;
import java.util.Map;
import java.util.Set;
import java.util.regex.Matcher;
import java.util.regex.Pattern;

/** A text read into a tree; a fault ends the reading by an exception. */
final class PlainText {
    interface Tree {
        long work(Map<String, Long> env);
    }

    private static final class Fault extends RuntimeException {
        private static final long serialVersionUID = 1L;
        final int what;

        Fault(int what) {
            this.what = what;
        }
    }

    private static final List<String> OF_WAYS = Arrays.asList("tap", "heading", "x", "y", "here", "ahead");
    private static final List<String> OF_LIKES = Arrays.asList("rider", "carrier", "sight", "pace", "asks");
    private static final Pattern TOKEN = Pattern.compile("[ \n]*([a-zA-Z]+|[0-9]+|<=|>=|[<>=#+*/();?:-]|[^ \n])");

    final int fault;
    final int place;
    Tree does;
    Tree fears;
    Tree likes;
    private final List<String> tokens = new ArrayList<>();
    private final List<Integer> places = new ArrayList<>();
    private int at = 0;
    private int open = 0;
    private String clause = "";

    PlainText(List<Integer> bytes) {
        StringBuilder all = new StringBuilder();
        for (int b : bytes) all.append((char) b);
        Matcher m = TOKEN.matcher(all);
        while (m.lookingAt()) {
            tokens.add(m.group(1));
            places.add(m.start(1));
            m.region(m.end(), all.length());
        }
        tokens.add("");
        places.add(all.length());
        int found = 0;
        try {
            clauses();
        } catch (Fault f) {
            found = f.what;
        }
        fault = found;
        place = found == 0 ? -1 : places.get(at);
    }

    private String token() {
        return tokens.get(at);
    }

    private boolean is(String... some) {
        return Arrays.asList(some).contains(token());
    }

    private void expect(String one) {
        if (!is(one)) throw new Fault(1);
        at++;
    }

    private void opens() {
        if (++open > 8) throw new Fault(3);
        at++;
    }

    private void clauses() {
        Set<String> had = new LinkedHashSet<>();
        while (!is("")) {
            if (!is("does", "fears", "likes")) throw new Fault(1);
            clause = token();
            if (!had.add(clause)) throw new Fault(4);
            at++;
            Tree tree = clause.equals("fears") ? either() : sum();
            if (clause.equals("does")) does = tree;
            else if (clause.equals("fears")) fears = tree;
            else likes = tree;
            expect(";");
        }
    }

    private static long held(long v) {
        return v > 1000000 ? 1000000 : v < -1000000 ? -1000000 : v;
    }

    private Tree sum() {
        Tree left = product();
        while (is("+", "-")) {
            boolean plus = is("+");
            at++;
            Tree a = left;
            Tree b = product();
            left = env -> held(plus ? a.work(env) + b.work(env) : a.work(env) - b.work(env));
        }
        return left;
    }

    private Tree product() {
        Tree left = one();
        while (is("*", "/")) {
            boolean times = is("*");
            at++;
            Tree a = left;
            Tree b = one();
            left = env -> {
                long x = a.work(env);
                long y = b.work(env);
                return held(times ? x * y : y == 0 ? 0 : x / y);
            };
        }
        return left;
    }

    private Tree one() {
        String t = token();
        if (t.matches("[0-9]+")) {
            if (new java.math.BigInteger(t).bitLength() > 20 || Long.parseLong(t.replaceAll("^0+(?=.)", "")) > 9999) throw new Fault(2);
            at++;
            long value = Long.parseLong(t.replaceAll("^0+(?=.)", ""));
            return env -> value;
        }
        if (OF_WAYS.contains(t) || OF_LIKES.contains(t)) {
            if (OF_LIKES.contains(t) != clause.equals("likes")) throw new Fault(5);
            at++;
            return env -> env.get(t);
        }
        Tree tree;
        if (is("(")) {
            opens();
            tree = sum();
            expect(")");
        } else if (is("-")) {
            opens();
            Tree a = one();
            tree = env -> -a.work(env);
        } else if (is("if")) {
            opens();
            Tree a = either();
            expect("?");
            Tree b = sum();
            expect(":");
            Tree c = sum();
            expect("end");
            tree = env -> a.work(env) == 1 ? b.work(env) : c.work(env);
        } else {
            throw new Fault(1);
        }
        open--;
        return tree;
    }

    private Tree either() {
        Tree left = both();
        while (is("or")) {
            at++;
            Tree a = left;
            Tree b = both();
            left = env -> Math.max(a.work(env), b.work(env));
        }
        return left;
    }

    private Tree both() {
        Tree left = ask();
        while (is("and")) {
            at++;
            Tree a = left;
            Tree b = ask();
            left = env -> Math.min(a.work(env), b.work(env));
        }
        return left;
    }

    private Tree ask() {
        if (is("not")) {
            opens();
            Tree a = ask();
            open--;
            return env -> 1 - a.work(env);
        }
        Tree a = sum();
        if (!is("<", "<=", ">", ">=", "=", "#")) throw new Fault(1);
        String how = token();
        at++;
        Tree b = sum();
        return env -> {
            int c = Long.compare(a.work(env), b.work(env));
            boolean so = how.equals("<") ? c < 0 : how.equals("<=") ? c <= 0 : how.equals(">") ? c > 0
                : how.equals(">=") ? c >= 0 : how.equals("=") ? c == 0 : c != 0;
            return so ? 1 : 0;
        };
    }
}

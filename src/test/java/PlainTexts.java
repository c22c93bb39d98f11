import java.util.ArrayList;
import java.util.HashMap;
import java.util.LinkedHashMap;
import java.util.List;
import java.util.Map;
import java.util.Set;
import java.util.function.IntPredicate;
import java.util.function.Predicate;
import java.util.regex.Matcher;
import java.util.regex.Pattern;

/** A second reading of the two languages, by tokens, trees and predicates, to hold the class against. */
final class PlainTexts {
    static final List<String> TEX = List.of("sand", "silt", "loam", "clay", "peat", "chalk");
    static final List<String> COLOUR = List.of("black", "brown", "red", "grey", "white");
    private static final Set<String> LANGUAGE = Set.of("or", "and", "not", "always", "any", "all", "at", "thick", "from",
        "deep", "mottled", "stones", "cm", "sand", "silt", "loam", "clay", "peat", "chalk", "black", "brown", "red",
        "grey", "white");
    private static final Set<String> COMPARES = Set.of("<", "<=", "=", ">=", ">");
    private static final Pattern TOKEN = Pattern.compile("[a-z]+|[0-9]+|[<>]=|[^ \n]", Pattern.DOTALL);

    /** The fault that a text has, with its place. */
    static final class Fault extends RuntimeException {
        private static final long serialVersionUID = 1L;
        final int number;
        final int place;

        Fault(int number, int place) {
            this.number = number;
            this.place = place;
        }
    }

    record Layer(int from, int to, int tex, int colour, boolean mottled, int stones) {
        int cm() {
            return to - from;
        }
    }

    record Line(int kind, Predicate<List<Layer>> holds) {
    }

    static final class PlainKey {
        final List<Line> lines = new ArrayList<>();
        final Map<String, Integer> kinds = new LinkedHashMap<>();
        int knots;

        int lineOf(List<Layer> bore) {
            for (int i = 0; i < lines.size(); i++) {
                if (lines.get(i).holds().test(bore)) {
                    return i;
                }
            }
            return -1;
        }
    }

    private final List<String> tokens = new ArrayList<>();
    private final List<Integer> places = new ArrayList<>();
    private int at;
    private int open;
    private PlainKey key;

    private PlainTexts(String text) {
        Matcher m = TOKEN.matcher(text);
        while (m.find()) {
            tokens.add(m.group());
            places.add(m.start());
        }
        tokens.add("");
        places.add(text.length());
    }

    static List<Layer> bore(String text) {
        return new PlainTexts(text).wholeBore();
    }

    static PlainKey key(String text) {
        return new PlainTexts(text).wholeKey();
    }

    private String now() {
        return tokens.get(at);
    }

    private Fault fault(int number) {
        return new Fault(number, places.get(at));
    }

    private boolean isNumber() {
        return !now().isEmpty() && Character.isDigit(now().charAt(0)) && now().charAt(0) < 128;
    }

    private boolean skip(String token) {
        boolean is = now().equals(token);
        at += is ? 1 : 0;
        return is;
    }

    private void must(String token) {
        if (!skip(token)) {
            throw fault(1);
        }
    }

    private int number(int most) {
        if (!isNumber()) {
            throw fault(1);
        }
        java.math.BigInteger n = new java.math.BigInteger(now());
        if (n.compareTo(java.math.BigInteger.valueOf(most)) > 0) {
            throw fault(2);
        }
        at++;
        return n.intValue();
    }

    private int oneOf(List<String> words) {
        int i = words.indexOf(now());
        if (i < 0) {
            throw fault(1);
        }
        at++;
        return i;
    }

    private List<Layer> wholeBore() {
        List<Layer> layers = new ArrayList<>();
        do {
            if (layers.size() == 8 && isNumber()) {
                throw fault(2);
            }
            layers.add(layer(layers.isEmpty() ? 0 : layers.get(layers.size() - 1).to()));
        } while (skip(";") && !now().isEmpty());
        if (!now().isEmpty()) {
            throw fault(1);
        }
        return layers;
    }

    private Layer layer(int due) {
        int from = number(300);
        if (from != due) {
            at--;
            throw fault(3);
        }
        must("-");
        int to = number(300);
        if (to <= from) {
            at--;
            throw fault(3);
        }
        int tex = oneOf(TEX);
        int colour = oneOf(COLOUR);
        boolean mottled = skip("mottled");
        return new Layer(from, to, tex, colour, mottled, skip("stones") ? number(99) : 0);
    }

    private PlainKey wholeKey() {
        key = new PlainKey();
        while (!now().isEmpty()) {
            String name = now();
            if (!name.matches("[a-z]{1,8}") || LANGUAGE.contains(name)) {
                throw fault(1);
            }
            if (key.lines.size() == 16 || (key.kinds.size() == 8 && !key.kinds.containsKey(name))) {
                throw fault(2);
            }
            key.kinds.putIfAbsent(name, key.kinds.size());
            at++;
            must(":");
            Predicate<List<Layer>> holds = ofBore();
            must(";");
            key.lines.add(new Line(key.kinds.get(name), holds));
        }
        return key;
    }

    /** A word that is a knot: false if it is not the one that stands here. */
    private boolean knot(String word) {
        if (!now().equals(word)) {
            return false;
        }
        if (key.knots == 96) {
            throw fault(2);
        }
        key.knots++;
        at++;
        return true;
    }

    private void openBracket() {
        if (now().equals("(") && open == 8) {
            throw fault(2);
        }
        must("(");
        open++;
    }

    private void closeBracket() {
        must(")");
        open--;
    }

    private IntPredicate compare() {
        String c = now();
        if (!COMPARES.contains(c)) {
            throw fault(1);
        }
        at++;
        int n = number(999);
        Map<String, IntPredicate> all = new HashMap<>();
        all.put("<", v -> v < n);
        all.put("<=", v -> v <= n);
        all.put("=", v -> v == n);
        all.put(">=", v -> v >= n);
        all.put(">", v -> v > n);
        return all.get(c);
    }

    private Predicate<List<Layer>> ofBore() {
        Predicate<List<Layer>> left = bothOfBore();
        while (knot("or")) {
            left = left.or(bothOfBore());
        }
        return left;
    }

    private Predicate<List<Layer>> bothOfBore() {
        Predicate<List<Layer>> left = oneOfBore();
        while (knot("and")) {
            left = left.and(oneOfBore());
        }
        return left;
    }

    private Predicate<List<Layer>> oneOfBore() {
        if (knot("not")) {
            return oneOfBore().negate();
        }
        if (now().equals("(")) {
            openBracket();
            Predicate<List<Layer>> inside = ofBore();
            closeBracket();
            return inside;
        }
        if (knot("always")) {
            return b -> true;
        }
        if (knot("any")) {
            Predicate<Layer> l = bracketed();
            return b -> b.stream().anyMatch(l);
        }
        if (knot("all")) {
            Predicate<Layer> l = bracketed();
            return b -> b.stream().allMatch(l);
        }
        if (knot("at")) {
            int n = number(999);
            Predicate<Layer> l = bracketed();
            return b -> b.stream().filter(x -> x.from() <= n && x.to() > n).anyMatch(l);
        }
        return measured();
    }

    private Predicate<List<Layer>> measured() {
        if (knot("thick")) {
            Predicate<Layer> l = bracketed();
            IntPredicate c = compare();
            return b -> c.test(b.stream().filter(l).mapToInt(Layer::cm).sum());
        }
        if (knot("from")) {
            Predicate<Layer> l = bracketed();
            IntPredicate c = compare();
            return b -> c.test(b.stream().filter(l).mapToInt(Layer::from).findFirst().orElse(999));
        }
        if (knot("deep")) {
            IntPredicate c = compare();
            return b -> c.test(b.get(b.size() - 1).to());
        }
        throw fault(1);
    }

    private Predicate<Layer> bracketed() {
        openBracket();
        Predicate<Layer> inside = ofLayer();
        closeBracket();
        return inside;
    }

    private Predicate<Layer> ofLayer() {
        Predicate<Layer> left = bothOfLayer();
        while (knot("or")) {
            left = left.or(bothOfLayer());
        }
        return left;
    }

    private Predicate<Layer> bothOfLayer() {
        Predicate<Layer> left = oneOfLayer();
        while (knot("and")) {
            left = left.and(oneOfLayer());
        }
        return left;
    }

    private Predicate<Layer> oneOfLayer() {
        if (now().equals("(")) {
            return bracketed();
        }
        if (knot("not")) {
            return oneOfLayer().negate();
        }
        int tex = TEX.indexOf(now());
        int colour = COLOUR.indexOf(now());
        if (tex >= 0 && knot(now())) {
            return x -> x.tex() == tex;
        }
        if (colour >= 0 && knot(now())) {
            return x -> x.colour() == colour;
        }
        if (knot("mottled")) {
            return Layer::mottled;
        }
        if (knot("stones")) {
            IntPredicate c = compare();
            return x -> c.test(x.stones());
        }
        if (knot("cm")) {
            IntPredicate c = compare();
            return x -> c.test(x.cm());
        }
        throw fault(1);
    }
}

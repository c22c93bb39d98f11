import java.io.ByteArrayOutputStream;
import java.math.BigInteger;
import java.nio.ByteBuffer;
import java.nio.charset.StandardCharsets;
import java.util.ArrayList;
import java.util.Arrays;
import java.util.HashSet;
import java.util.List;
import java.util.NoSuchElementException;
import java.util.Set;
import java.util.TreeMap;
import java.util.stream.IntStream;

/** The document said a second time, by collections and by trying everything, to hold the class against. */
final class PlainDesk {
    record Note(int target, int hand, int cell, List<PlainTexts.Layer> layers) {
    }

    record Bore(int note, int hand, int cell, int kind) {
    }

    private static final int[][] RANGES = {{0, 999}, {0, 3}, {-1, 99}, {0, 99}, {-1, 5}};

    private final ByteArrayOutputStream tape = new ByteArrayOutputStream();
    private PlainTexts.PlainKey theKey = new PlainTexts.PlainKey();
    private int faultNumber;
    private int faultPlace = -1;
    private int w;
    private int h;
    private int[][] given;
    private final List<Note> notes = new ArrayList<>();
    private final int[][] limits = {{5, 20}, {30, 60}};
    private final int[] prices = {300, 100};
    private int[][][] readings = new int[3][8][8];
    private int[] values = new int[8];
    private List<Integer> lastLine = List.of();
    private List<Integer> lastPlan = List.of();
    private int lastDays = -1;

    PlainDesk() {
        land(4, 4);
    }

    int feed(int a, int b, int c, int d, int e) {
        if (tape.size() > 780) {
            return -1;
        }
        tape.writeBytes(ByteBuffer.allocate(20).putInt(a).putInt(b).putInt(c).putInt(d).putInt(e).array());
        return tape.size();
    }

    private String takeText(int n) {
        String text = new String(tape.toByteArray(), 0, n, StandardCharsets.ISO_8859_1);
        tape.reset();
        faultNumber = 0;
        faultPlace = -1;
        return text;
    }

    private int keepFault(PlainTexts.Fault f) {
        faultNumber = f.number;
        faultPlace = f.place;
        return -1;
    }

    int key(int n) {
        if (n < 0 || n > tape.size()) {
            return -2;
        }
        try {
            theKey = PlainTexts.key(takeText(n));
        } catch (PlainTexts.Fault f) {
            return keepFault(f);
        }
        values = new int[8];
        readings = new int[3][8][8];
        for (int[][] hand : readings) {
            IntStream.range(0, 8).forEach(i -> hand[i][i] = 16);
        }
        return theKey.lines.size();
    }

    int bore(int n, int hand, int cell) {
        if (n < 0 || n > tape.size() || hand < 0 || hand > 2 || noCell(cell) || notes.size() == 60) {
            return -2;
        }
        try {
            notes.add(new Note(-1, hand, cell, PlainTexts.bore(takeText(n))));
        } catch (PlainTexts.Fault f) {
            return keepFault(f);
        }
        return notes.size() - 1;
    }

    int fault(int what) {
        return what == 0 ? faultNumber : what == 1 ? faultPlace : -1;
    }

    int strike(int note) {
        if (note < 0 || note >= notes.size() || notes.size() == 60) {
            return -1;
        }
        notes.add(new Note(note, -1, -1, null));
        return notes.size() - 1;
    }

    boolean land(int newW, int newH) {
        if (newW < 2 || newW > 8 || newH < 2 || newH > 8) {
            return false;
        }
        w = newW;
        h = newH;
        given = new int[5][w * h];
        Arrays.fill(given[2], -1);
        Arrays.fill(given[3], 1);
        Arrays.fill(given[4], -1);
        notes.clear();
        return true;
    }

    boolean ground(int cell, int what, int v) {
        if (noCell(cell) || what < 0 || what > 4 || v < RANGES[what][0] || v > RANGES[what][1]) {
            return false;
        }
        given[what][cell] = v;
        return true;
    }

    boolean bounds(int what, int low, int high) {
        int most = what == 0 ? 999 : 99;
        if (what < 0 || what > 1 || low < 1 || high < 1 || low > most || high > most || low >= high) {
            return false;
        }
        limits[what] = new int[] {low, high};
        return true;
    }

    boolean price(int what, int n) {
        if (what < 0 || what > 1 || n < 0 || n > 9999) {
            return false;
        }
        prices[what] = n;
        return true;
    }

    boolean reads(int hand, int kind, int k01, int k23, int k45, int k67) {
        if (hand < 0 || hand > 2 || noKind(kind)) {
            return false;
        }
        List<Integer> row = new ArrayList<>();
        for (int pair : new int[] {k01, k23, k45, k67}) {
            for (int a = 0; a <= 16; a++) {
                for (int b = 0; b <= 16; b++) {
                    if (a * 32 + b == pair) {
                        row.add(a);
                        row.add(b);
                    }
                }
            }
        }
        boolean whole = row.size() == 8 && row.stream().mapToInt(i -> i).sum() == 16;
        if (!whole || row.subList(kinds(), 8).stream().anyMatch(i -> i != 0)) {
            return false;
        }
        readings[hand][kind] = row.stream().mapToInt(i -> i).toArray();
        return true;
    }

    boolean value(int kind, int n) {
        if (noKind(kind) || n < 0 || n > 9999) {
            return false;
        }
        values[kind] = n;
        return true;
    }

    private List<PlainTexts.Layer> layersOf(int note) {
        return note < 0 || note >= notes.size() ? null : notes.get(note).layers();
    }

    int layer(int note, int k, int what) {
        List<PlainTexts.Layer> layers = layersOf(note);
        if (layers == null || k < 0 || k >= layers.size() || what < 0 || what > 5) {
            return -1;
        }
        PlainTexts.Layer l = layers.get(k);
        return List.of(l.from(), l.to(), l.tex(), l.colour(), l.mottled() ? 1 : 0, l.stones()).get(what);
    }

    int told(int note, int what) {
        List<PlainTexts.Layer> layers = layersOf(note);
        if (layers == null || what < 0 || what > 4) {
            return -2;
        }
        int line = theKey.lineOf(layers);
        int kind = line < 0 ? -1 : theKey.lines.get(line).kind();
        return List.of(notes.get(note).hand(), notes.get(note).cell(), layers.size(), kind, line).get(what);
    }

    private boolean noCell(int cell) {
        return cell < 0 || cell >= w * h;
    }

    private int kinds() {
        return theKey.kinds.size();
    }

    private boolean noKind(int kind) {
        return kind < 0 || kind >= kinds();
    }

    private int slope(int cell) {
        int greatest = 0;
        for (int other = 0; other < w * h; other++) {
            if (steps(cell, other) == 1) {
                greatest = Math.max(greatest, Math.abs(given[0][cell] - given[0][other]));
            }
        }
        return greatest;
    }

    private int steps(int a, int b) {
        return Math.abs(a % w - b % w) + Math.abs(a / w - b / w);
    }

    private int far(int a, int b) {
        return Math.max(Math.abs(a % w - b % w), Math.abs(a / w - b / w));
    }

    private int step(int what, int v) {
        return v < 0 ? -1 : (int) Arrays.stream(limits[what]).filter(limit -> v >= limit).count();
    }

    int look(int cell, int what) {
        if (noCell(cell)) {
            throw new IndexOutOfBoundsException();
        }
        if (what < 0 || what > 7) {
            throw new NoSuchElementException();
        }
        return what == 0 ? slope(cell) : what == 1 ? step(0, slope(cell)) : what == 2 ? step(1, given[2][cell])
            : given[what - 3][cell];
    }

    int like(int a, int b) {
        if (noCell(a) || noCell(b)) {
            return -1;
        }
        int sum = given[1][a] == given[1][b] ? 4 : 0;
        sum += look(a, 1) == look(b, 1) ? 2 : 0;
        sum += look(a, 2) >= 0 && look(a, 2) == look(b, 2) ? 2 : 0;
        return sum + Math.max(0, 6 - far(a, b));
    }

    private boolean isStruck(int note, int n) {
        return IntStream.range(0, n).anyMatch(i -> notes.get(i).target() == note && !isStruck(i, n));
    }

    /** By how many notes: all that count. */
    private List<Bore> counting(int n) {
        List<Bore> found = new ArrayList<>();
        boolean[] struck = new boolean[n];
        for (int i = n - 1; i >= 0; i--) {
            if (n <= 12) {
                struck[i] = isStruck(i, n);
            } else {
                for (int j = i + 1; j < n; j++) {
                    struck[i] |= notes.get(j).target() == i && !struck[j];
                }
            }
        }
        for (int i = 0; i < n; i++) {
            if (!struck[i] && told(i, 3) >= 0) {
                found.add(new Bore(i, told(i, 0), told(i, 1), told(i, 3)));
            }
        }
        return found;
    }

    private List<Bore> countingAll() {
        return counting(notes.size());
    }

    private int[] weights(int cell, List<Bore> bores) {
        int[] weights = new int[kinds()];
        Arrays.fill(weights, 1);
        for (Bore b : bores) {
            int like = like(cell, b.cell());
            for (int k = 0; k < weights.length; k++) {
                weights[k] += like * readings[b.hand()][k][b.kind()];
            }
        }
        return weights;
    }

    private static int best(int[] weights) {
        int most = Arrays.stream(weights).max().getAsInt();
        return IntStream.range(0, weights.length).filter(k -> weights[k] == most).findFirst().getAsInt();
    }

    private static int parts(int[] weights, int k) {
        return (int) (1000L * weights[k] / Arrays.stream(weights).sum());
    }

    int chance(int n, int cell, int kind, int what) {
        boolean wrong = n < 0 || n > notes.size() || noCell(cell) || what < 0 || what > 4 || kinds() == 0;
        if (wrong || (what <= 1 && noKind(kind))) {
            return -1;
        }
        int[] weights = weights(cell, counting(n));
        return what == 0 ? weights[kind] : what == 1 ? parts(weights, kind) : what == 2 ? best(weights)
            : what == 3 ? 1000 - parts(weights, best(weights)) : Arrays.stream(weights).sum();
    }

    int leftOut(int n, int what) {
        if (n < 0 || n > notes.size() || what < 0 || what > 2) {
            return -1;
        }
        List<Bore> bores = counting(n);
        int right = 0;
        int said = 0;
        for (Bore b : bores) {
            List<Bore> others = new ArrayList<>(bores);
            others.remove(b);
            int[] weights = weights(b.cell(), others);
            right += best(weights) == b.kind() ? 1 : 0;
            said += parts(weights, best(weights));
        }
        return what == 0 ? bores.size() : what == 1 ? right : said;
    }

    /** From the front on: the best line that ends in each kind, kept whole. */
    int draw(int n, boolean column, int at) {
        if (n < 0 || n > notes.size() || at < 0 || at >= (column ? w : h) || kinds() == 0) {
            return -1;
        }
        List<Bore> bores = counting(n);
        List<List<Integer>> ends = new ArrayList<>();
        int before = -1;
        for (int i = 0; i < (column ? h : w); i++) {
            int cell = column ? i * w + at : at * w + i;
            int[] weights = weights(cell, bores);
            int change = before >= 0 && Math.abs(given[0][cell] - given[0][before]) >= limits[0][0] ? prices[1] : prices[0];
            List<List<Integer>> longer = new ArrayList<>();
            for (int k = 0; k < kinds(); k++) {
                int own = 1000 - parts(weights, k);
                List<Integer> choice = i == 0 ? List.of(own, k) : null;
                for (List<Integer> end : ends) {
                    List<Integer> line = new ArrayList<>(end);
                    line.set(0, end.get(0) + own + (end.get(end.size() - 1) == k ? 0 : change));
                    line.add(k);
                    choice = choice == null || compare(line, choice) < 0 ? line : choice;
                }
                longer.add(choice);
            }
            ends = longer;
            before = cell;
        }
        List<Integer> least = ends.stream().min(PlainDesk::compare).get();
        lastLine = least.subList(1, least.size());
        return least.get(0);
    }

    private static int compare(List<Integer> a, List<Integer> b) {
        return Arrays.compare(a.stream().mapToInt(i -> i).toArray(), b.stream().mapToInt(i -> i).toArray());
    }

    int drawn(int k) {
        return k < 0 || k >= lastLine.size() ? -1 : lastLine.get(k);
    }

    int plan(int m, int days, int from) {
        if (m < 1 || m > 3 || days < 1 || days > 60 || noCell(from) || kinds() == 0) {
            return -1;
        }
        List<Bore> bores = countingAll();
        Set<Integer> taken = new HashSet<>();
        bores.forEach(b -> taken.add(b.cell()));
        int[] gains = new int[w * h];
        for (int c = 0; c < w * h; c++) {
            int[] weights = weights(c, bores);
            gains[c] = (1000 - parts(weights, best(weights))) * given[3][c];
        }
        List<Integer> found = null;
        int all = (int) Math.round(Math.pow(w * h, m));
        for (int code = 0; code < all; code++) {
            int[] path = new int[m];
            for (int i = m - 1, rest = code; i >= 0; i--, rest /= w * h) {
                path[i] = rest % (w * h);
            }
            List<Integer> rated = rate(path, days, from, taken, gains);
            found = rated != null && (found == null || compare(rated, found) < 0) ? rated : found;
        }
        if (found == null) {
            return -1;
        }
        lastDays = found.get(1);
        lastPlan = found.subList(2, found.size());
        return -found.get(0);
    }

    /** The sum below 0, the days, the cells: so that the least is the best; null if it can't be. */
    private List<Integer> rate(int[] path, int days, int from, Set<Integer> taken, int[] gains) {
        int sum = 0;
        int spent = 0;
        for (int i = 0; i < path.length; i++) {
            for (int j = 0; j < i; j++) {
                if (far(path[i], path[j]) < 2) {
                    return null;
                }
            }
            if (taken.contains(path[i])) {
                return null;
            }
            spent += steps(i == 0 ? from : path[i - 1], path[i]) + 1;
            sum += gains[path[i]];
        }
        if (spent > days) {
            return null;
        }
        List<Integer> rated = new ArrayList<>(List.of(-sum, spent));
        Arrays.stream(path).forEach(rated::add);
        return rated;
    }

    int planned(int what, int k) {
        return what == 1 ? lastDays : what != 0 || k < 0 || k >= lastPlan.size() ? -1 : lastPlan.get(k);
    }

    int turned(int oldClass, int what) {
        if (oldClass < 0 || oldClass > 5 || what < 0 || what > 8) {
            return -2;
        }
        int[] tally = new int[8];
        countingAll().stream().filter(b -> given[4][b.cell()] == oldClass).forEach(b -> tally[b.kind()]++);
        return what < 8 ? tally[what] : Arrays.stream(tally).sum() == 0 ? -1 : best(tally);
    }

    private int turnedAt(int cell) {
        return given[4][cell] < 0 ? -1 : turned(given[4][cell], 8);
    }

    private int bestAt(int cell) {
        return kinds() == 0 ? -1 : best(weights(cell, countingAll()));
    }

    int maps(int what, int x) {
        if (what < 0 || what > 2 || (what > 0 && (x < 0 || x > w - 2))) {
            return -1;
        }
        if (what == 0) {
            return (int) IntStream.range(0, w * h).filter(c -> turnedAt(c) >= 0 && turnedAt(c) == bestAt(c)).count();
        }
        return (int) IntStream.range(0, h).map(y -> y * w + x).filter(c -> what == 2 ? bestAt(c) != bestAt(c + 1)
            : turnedAt(c) >= 0 && turnedAt(c + 1) >= 0 && turnedAt(c) != turnedAt(c + 1)).count();
    }

    int worth(int what, int p) {
        if (what < 0 || what > 2 || (what == 2 && (p < 0 || p > 1000)) || kinds() == 0) {
            return -1;
        }
        List<Bore> bores = countingAll();
        long sum = 0;
        for (int c = 0; c < w * h; c++) {
            int[] weights = weights(c, bores);
            if (what == 0) {
                sum += values[best(weights)];
            } else if (what == 1) {
                long all = IntStream.range(0, kinds()).mapToLong(k -> (long) values[k] * weights[k]).sum();
                sum += all / Arrays.stream(weights).sum();
            } else {
                sum += IntStream.range(0, kinds()).filter(k -> parts(weights, k) >= p || k == best(weights))
                    .map(k -> values[k]).distinct().count() > 1 ? 1 : 0;
            }
        }
        return (int) sum;
    }

    int hands(int a, int b, int what) {
        if (a < 0 || a > 2 || b < 0 || b > 2 || a == b || what < 0 || what > 4) {
            return -1000000;
        }
        TreeMap<Integer, Integer> one = new TreeMap<>();
        TreeMap<Integer, Integer> other = new TreeMap<>();
        for (Bore bore : countingAll()) {
            if (bore.hand() == a) {
                one.put(bore.cell(), bore.kind());
            }
            if (bore.hand() == b) {
                other.put(bore.cell(), bore.kind());
            }
        }
        one.keySet().retainAll(other.keySet());
        other.keySet().retainAll(one.keySet());
        int many = one.size();
        int same = (int) one.keySet().stream().filter(c -> one.get(c).equals(other.get(c))).count();
        int byChance = one.values().stream().mapToInt(k -> (int) other.values().stream().filter(k::equals).count()).sum();
        int upper = same * many - byChance;
        int lower = many * many - byChance;
        int divisor = Math.max(1, BigInteger.valueOf(upper).gcd(BigInteger.valueOf(lower)).intValue());
        return List.of(many, same, byChance, upper / divisor, lower / divisor).get(what);
    }

    int count(int what) {
        return what < 0 || what > 6 ? -1
            : List.of(w, h, notes.size(), kinds(), theKey.lines.size(), theKey.knots, countingAll().size()).get(what);
    }
}

import java.util.NoSuchElementException;
import java.util.Random;

/** Runs of calls by chance, each answered by the class and by the plain second desk. */
public final class SecondDeskTest {
    private static final int RUNS = 500;
    private static final int CALLS = 500;

    private final Checks checks;
    private final Random random;
    private final RandomTexts texts;
    private final ClodDesk desk = new ClodDesk();
    private final PlainDesk plain = new PlainDesk();
    private final int style;

    private SecondDeskTest(Checks checks, int seed) {
        this.checks = checks;
        this.random = new Random(seed);
        this.texts = new RandomTexts(random);
        this.style = seed % 4;
    }

    public static void main(String[] args) {
        Checks checks = new Checks("SecondDeskTest");
        for (int seed = 0; seed < RUNS; seed++) {
            new SecondDeskTest(checks, seed).run();
        }
        checks.end();
    }

    private void run() {
        if (style > 0) {
            land(style == 1 ? 2 + random.nextInt(2) : any(2, 8), any(2, style == 1 ? 3 : 8));
            key(texts.key());
        }
        for (int i = 0; i < CALLS; i += 3) {
            int choice = random.nextInt(100);
            if (choice < 18) {
                bore();
            } else if (choice < 36) {
                change();
            } else {
                ask();
            }
        }
    }

    /** A number of the range, now and then one beside it. */
    private int any(int least, int most) {
        int slip = random.nextInt(40);
        return slip == 0 ? least - 1 : slip == 1 ? most + 1 : slip == 2 && random.nextInt(9) == 0 ? random.nextInt()
            : least + random.nextInt(most - least + 1);
    }

    private int cell() {
        return any(0, plain.count(0) * plain.count(1) - 1);
    }

    private int notes() {
        return any(0, Math.max(0, plain.count(2)));
    }

    private int kind() {
        return any(0, Math.max(0, plain.count(3) - 1));
    }

    private void feed(String text) {
        byte[] bytes = Checks.bytes(text);
        for (int at = 0; at < bytes.length; at += 20) {
            int[] v = Checks.fiveNumbers(bytes, at);
            checks.due("feed", desk.feed(v[0], v[1], v[2], v[3], v[4]), plain.feed(v[0], v[1], v[2], v[3], v[4]));
        }
    }

    private int length(String text) {
        int slip = random.nextInt(60);
        return slip == 0 ? -1 : slip == 1 ? text.length() + 25 : slip == 2 ? text.length() / 2 : text.length();
    }

    private void key(String text) {
        feed(text);
        int n = length(text);
        checks.due("key " + text, desk.key(n), plain.key(n));
        faults(text);
    }

    private void bore() {
        String text = texts.bore();
        feed(text);
        int n = length(text);
        int hand = any(0, 2);
        int cell = cell();
        checks.due("bore " + text, desk.bore(n, hand, cell), plain.bore(n, hand, cell));
        faults(text);
    }

    private void faults(String text) {
        for (int what = -1; what < 3; what++) {
            checks.due("fault(" + what + ") " + text, desk.fault(what), plain.fault(what));
        }
    }

    private void land(int w, int h) {
        checks.due("land", desk.land(w, h), plain.land(w, h));
    }

    private void change() {
        int a = cell();
        switch (random.nextInt(14)) {
            case 0:
                key(random.nextInt(6) == 0 ? texts.crowdedKey() : texts.key());
                break;
            case 1: case 2:
                int note = notes();
                checks.due("strike", desk.strike(note), plain.strike(note));
                break;
            case 3:
                if (random.nextInt(12) == 0) {
                    land(any(2, 8), any(2, 8));
                }
                break;
            case 4:
                changeNumbers();
                break;
            case 5: case 6: case 7:
                reads();
                break;
            default:
                int what = any(0, 4);
                int v = any(what == 2 || what == 4 ? -1 : 0, what == 0 ? random.nextInt(3) == 0 ? 999 : 30 : what == 1 ? 3
                    : what == 4 ? 5 : 99);
                checks.due("ground", desk.ground(a, what, v), plain.ground(a, what, v));
                break;
        }
    }

    private void changeNumbers() {
        int what = any(0, 1);
        int low = any(1, what == 0 ? random.nextInt(3) == 0 ? 999 : 20 : 99);
        int high = random.nextInt(8) == 0 ? low : any(1, what == 0 ? 999 : 99);
        checks.due("bounds", desk.bounds(what, low, high), plain.bounds(what, low, high));
        int n = any(0, random.nextInt(3) == 0 ? 9999 : 400);
        checks.due("price", desk.price(what, n), plain.price(what, n));
    }

    private void reads() {
        int kind = kind();
        int n = any(0, 9999);
        checks.due("value", desk.value(kind, n), plain.value(kind, n));
        int[] row = new int[8];
        int kinds = Math.max(1, plain.count(3) + (random.nextInt(20) == 0 ? 1 : 0));
        for (int i = 0; i < 16; i++) {
            row[random.nextInt(Math.min(8, kinds))]++;
        }
        row[random.nextInt(8)] += random.nextInt(12) == 0 ? random.nextInt(35) - 17 : 0;
        int hand = any(0, 2);
        int a = row[0] * 32 + row[1];
        int b = row[2] * 32 + row[3];
        int c = row[4] * 32 + row[5];
        int d = row[6] * 32 + row[7];
        checks.due("reads", desk.reads(hand, kind, a, b, c, d), plain.reads(hand, kind, a, b, c, d));
    }

    private void ask() {
        int n = notes();
        int a = cell();
        int b = cell();
        int x = any(0, 8);
        switch (random.nextInt(15)) {
            case 0: askLayers(n); break;
            case 1: askTold(n); break;
            case 2: look(a, x); break;
            case 3: checks.due("like", desk.like(a, b), plain.like(a, b)); break;
            case 4: case 5: askChances(n, a); break;
            case 6: askLeftOut(n); break;
            case 7: case 8: draw(n); break;
            case 9: case 10: plan(a); break;
            case 11: askTurned(); break;
            case 12: askWorth(); break;
            case 13: askHands(); break;
            default: askCounts(); break;
        }
    }

    private void askLayers(int n) {
        for (int k = -1; k < 9; k++) {
            for (int what = -1; what < 7; what++) {
                checks.due("layer(" + n + ", " + k + ", " + what + ")", desk.layer(n, k, what), plain.layer(n, k, what));
            }
        }
    }

    private void askTold(int n) {
        for (int what = -1; what < 6; what++) {
            checks.due("told(" + n + ", " + what + ")", desk.told(n, what), plain.told(n, what));
        }
    }

    private void look(int cell, int what) {
        int thrown = 0;
        int want = 0;
        try {
            want = plain.look(cell, what);
        } catch (IndexOutOfBoundsException e) {
            thrown = 1;
        } catch (NoSuchElementException e) {
            thrown = 2;
        }
        checks.due("look throws", Checks.lookThrows(desk, cell, what), thrown);
        if (thrown == 0) {
            checks.due("look(" + cell + ", " + what + ")", desk.look(cell, what), want);
        }
    }

    private void askChances(int n, int cell) {
        int kind = kind();
        for (int what = -1; what < 6; what++) {
            checks.due("chance what " + what, desk.chance(n, cell, kind, what), plain.chance(n, cell, kind, what));
        }
    }

    private void askLeftOut(int n) {
        for (int what = -1; what < 4; what++) {
            checks.due("leftOut(" + n + ", " + what + ")", desk.leftOut(n, what), plain.leftOut(n, what));
        }
    }

    private void draw(int n) {
        boolean column = random.nextBoolean();
        int at = any(0, plain.count(column ? 0 : 1) - 1);
        checks.due("draw", desk.draw(n, column, at), plain.draw(n, column, at));
        for (int k = -1; k < 9; k++) {
            checks.due("drawn(" + k + ")", desk.drawn(k), plain.drawn(k));
        }
    }

    private void plan(int from) {
        boolean wide = plain.count(0) * plain.count(1) > 16 && random.nextInt(40) > 0;
        int m = any(1, wide ? 2 : 3);
        if (wide && m == 3) {
            m = 4;
        }
        int days = any(1, random.nextInt(3) == 0 ? 60 : 15);
        checks.due("plan(" + m + ", " + days + ", " + from + ")", desk.plan(m, days, from), plain.plan(m, days, from));
        for (int what = -1; what < 3; what++) {
            for (int k = -1; k < 4; k++) {
                checks.due("planned(" + what + ", " + k + ")", desk.planned(what, k), plain.planned(what, k));
            }
        }
    }

    private void askTurned() {
        int old = any(0, 5);
        for (int what = -1; what < 10; what++) {
            checks.due("turned(" + old + ", " + what + ")", desk.turned(old, what), plain.turned(old, what));
        }
        int x = any(0, plain.count(0) - 2);
        for (int what = -1; what < 4; what++) {
            checks.due("maps(" + what + ", " + x + ")", desk.maps(what, x), plain.maps(what, x));
        }
    }

    private void askWorth() {
        int p = any(0, random.nextInt(3) == 0 ? 1000 : 300);
        for (int what = -1; what < 4; what++) {
            checks.due("worth(" + what + ", " + p + ")", desk.worth(what, p), plain.worth(what, p));
        }
    }

    private void askHands() {
        int a = any(0, 2);
        int b = any(0, 2);
        for (int what = -1; what < 6; what++) {
            checks.due("hands(" + a + ", " + b + ", " + what + ")", desk.hands(a, b, what), plain.hands(a, b, what));
        }
    }

    private void askCounts() {
        for (int what = -1; what < 8; what++) {
            checks.due("count(" + what + ")", desk.count(what), plain.count(what));
        }
    }
}

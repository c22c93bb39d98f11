import java.util.Random;

/** Any arguments in any state: no call but look throws, and look throws what the document names. */
public final class WildCallsTest {
    private static final int[] EDGES = {Integer.MIN_VALUE, Integer.MIN_VALUE + 1, -1000, -33, -2, -1, 0, 1, 2, 3, 4, 5, 6, 7, 8, 9,
        15, 16, 17, 31, 32, 59, 60, 61, 63, 64, 65, 99, 100, 512, 528, 800, 801, 999, 1000, 1001, 9999, 10000, 1 << 30,
        Integer.MAX_VALUE - 1, Integer.MAX_VALUE};

    private final Random random;
    private final RandomTexts texts;
    private final ClodDesk desk = new ClodDesk();

    private WildCallsTest(int seed) {
        random = new Random(seed);
        texts = new RandomTexts(random);
    }

    public static void main(String[] args) {
        Checks checks = new Checks("WildCallsTest");
        for (int seed = 0; seed < 300; seed++) {
            WildCallsTest run = new WildCallsTest(seed);
            String call = "";
            try {
                for (int i = 0; i < 512; i++) {
                    call = run.call();
                }
            } catch (RuntimeException e) {
                checks.due("seed " + seed + " behind " + call + " threw " + e, 1, 0);
            }
        }
        checks.end();
    }

    private int wild() {
        return random.nextInt(3) > 0 ? random.nextInt(9) : EDGES[random.nextInt(EDGES.length)];
    }

    private String call() {
        int choice = random.nextInt(30);
        switch (choice) {
            case 0: desk.feed(wild(), random.nextInt(), wild(), random.nextInt(), wild()); break;
            case 1: desk.key(wild()); break;
            case 2: desk.bore(wild(), wild(), wild()); break;
            case 3: desk.fault(wild()); break;
            case 4: desk.strike(wild()); break;
            case 5: desk.land(wild(), random.nextInt(12) == 0 ? wild() : 9); break;
            case 6: desk.ground(wild(), wild(), wild()); break;
            case 7: desk.bounds(wild(), wild(), wild()); break;
            case 8: desk.price(wild(), wild()); break;
            case 9: desk.reads(wild(), wild(), wild(), wild(), wild(), wild()); break;
            case 10: desk.value(wild(), wild()); break;
            case 11: desk.layer(wild(), wild(), wild()); break;
            case 12: desk.told(wild(), wild()); break;
            case 13: checkLook(wild(), wild()); break;
            case 14: desk.like(wild(), wild()); break;
            case 15: desk.chance(wild(), wild(), wild(), wild()); break;
            case 16: desk.leftOut(wild(), wild()); break;
            case 17: desk.draw(wild(), random.nextBoolean(), wild()); break;
            case 18: desk.drawn(wild()); break;
            case 19: desk.plan(wild(), wild(), wild()); break;
            case 20: desk.planned(wild(), wild()); break;
            case 21: desk.turned(wild(), wild()); break;
            case 22: desk.maps(wild(), wild()); break;
            case 23: desk.worth(wild(), wild()); break;
            case 24: desk.hands(wild(), wild(), wild()); break;
            case 25: desk.count(wild()); break;
            case 26: Checks.key(desk, texts.key()); break;
            default: Checks.bore(desk, texts.bore(), random.nextInt(3), random.nextInt(64)); break;
        }
        return "call " + choice;
    }

    private void checkLook(int cell, int what) {
        boolean noCell = cell < 0 || cell >= desk.count(0) * desk.count(1);
        int want = noCell ? 1 : what < 0 || what > 7 ? 2 : 0;
        if (Checks.lookThrows(desk, cell, what) != want) {
            throw new IllegalStateException("look(" + cell + ", " + what + ")");
        }
    }
}

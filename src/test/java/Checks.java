import java.nio.charset.StandardCharsets;

/** What the tests share: a desk that texts can be told to, and a count of wrong answers. */
final class Checks {
    private static final int BLANK = 32;

    final String name;
    private int wrong;

    Checks(String name) {
        this.name = name;
    }

    void due(String call, long got, long want) {
        if (got != want) {
            wrong++;
            System.out.println(name + ": " + call + " answered " + got + ", due is " + want);
        }
    }

    void due(String call, boolean got, boolean want) {
        due(call, got ? 1 : 0, want ? 1 : 0);
    }

    /** A call with one of its arguments left open. */
    interface Ask {
        int at(int v);
    }

    /** The ends of a range are taken; what stands beside them, and what is far off, is refused. */
    void ends(String call, int least, int most, int refused, Ask ask) {
        for (int v : new int[] {least - 1, most + 1, Integer.MIN_VALUE, Integer.MAX_VALUE}) {
            due(call + " of " + v, ask.at(v), refused);
        }
        for (int v : new int[] {least, most}) {
            if (ask.at(v) == refused) {
                due(call + " of " + v + " is refused", 1, 0);
            }
        }
    }

    void end() {
        System.out.println(name + (wrong == 0 ? ": all answers are as due" : ": " + wrong + " answers are not as due"));
        if (wrong != 0) {
            System.exit(1);
        }
    }

    static byte[] bytes(String text) {
        return text.getBytes(StandardCharsets.ISO_8859_1);
    }

    /** Feeds a text, filled up with blanks to whole feeds. */
    static void feed(ClodDesk desk, byte[] text) {
        for (int at = 0; at < text.length; at += 20) {
            int[] numbers = fiveNumbers(text, at);
            desk.feed(numbers[0], numbers[1], numbers[2], numbers[3], numbers[4]);
        }
    }

    static int[] fiveNumbers(byte[] text, int at) {
        int[] numbers = new int[5];
        for (int i = 0; i < 20; i++) {
            int b = at + i < text.length ? text[at + i] & 255 : BLANK;
            numbers[i / 4] = numbers[i / 4] << 8 | b;
        }
        return numbers;
    }

    static int key(ClodDesk desk, String text) {
        feed(desk, bytes(text));
        return desk.key(text.length());
    }

    static int bore(ClodDesk desk, String text, int hand, int cell) {
        feed(desk, bytes(text));
        return desk.bore(text.length(), hand, cell);
    }

    /** A bore of one layer, by the letter of its tex: s, i, l, c, p, k. */
    static int boreOf(ClodDesk desk, char tex, int hand, int cell) {
        return bore(desk, "0-9 " + PlainTexts.TEX.get("silcpk".indexOf(tex)) + " red", hand, cell);
    }

    /** 1 for IndexOutOfBoundsException, 2 for NoSuchElementException, 3 for another one, 0 for none. */
    static int lookThrows(ClodDesk desk, int cell, int what) {
        try {
            desk.look(cell, what);
            return 0;
        } catch (IndexOutOfBoundsException e) {
            return 1;
        } catch (java.util.NoSuchElementException e) {
            return 2;
        } catch (RuntimeException e) {
            return 3;
        }
    }
}

/** Promises 7 to 12 and 15 to 18: the land, its numbers, and the chances of kinds. */
public final class LandPromisesTest {
    private static final Checks CHECKS = new Checks("LandPromisesTest");
    private static final String KEY = "s:any(sand);c:any(clay);p:any(peat);";

    public static void main(String[] args) {
        promise7Land();
        promise8Ground();
        promise9Bounds();
        promise10Price();
        promise11Reads();
        promise12Value();
        promise15Look();
        promise16Like();
        promise17Chance();
        promise17Known();
        promise18LeftOut();
        CHECKS.end();
    }

    private static void due(String call, int got, int want) {
        CHECKS.due(call, got, want);
    }

    private static void due(String call, boolean got, boolean want) {
        CHECKS.due(call, got, want);
    }

    private static int sand(ClodDesk d, int hand, int cell) {
        return Checks.bore(d, "0-9 sand red", hand, cell);
    }

    private static int clay(ClodDesk d, int hand, int cell) {
        return Checks.bore(d, "0-9 clay red", hand, cell);
    }

    private static void promise7Land() {
        ClodDesk d = new ClodDesk();
        int[][] wrong = {{1, 4}, {9, 4}, {4, 1}, {4, 9}, {-4, -4}, {0, 0}};
        d.ground(3, 0, 50);
        for (int[] w : wrong) {
            due("land", d.land(w[0], w[1]), false);
        }
        due("nothing has changed", d.look(3, 3), 50);
        Checks.key(d, KEY);
        sand(d, 0, 0);
        d.reads(0, 0, 15 * 32 + 1, 0, 0, 0);
        d.value(0, 30);
        d.price(0, 0);
        d.bounds(0, 2, 3);
        d.draw(1, false, 0);
        d.plan(1, 9, 0);
        int days = d.planned(1, 0);
        for (int what = 0; what < 5; what++) {
            due("ground", d.ground(1, what, 3), true);
        }
        Checks.feed(d, Checks.bytes(KEY));
        due("land", d.land(8, 2), true);
        due("W", d.count(0), 8);
        due("H", d.count(1), 2);
        due("no notes", d.count(2), 0);
        due("the key stays", d.count(3), 3);
        int[] atFirst = {0, 0, -1, 0, 0, -1, 1, -1};
        for (int what = 0; what < 8; what++) {
            due("look", d.look(1, what), atFirst[what]);
        }
        due("the last cell", d.look(15, 0), 0);
        due("there are 16", Checks.lookThrows(d, 16, 0), 1);
        due("the line stays drawn", d.drawn(3), 0);
        due("the plan stays", d.planned(1, 0), days);
        due("values stay", d.worth(0, 0), 16 * 30);
        d.ground(0, 0, 2);
        due("bounds stay", d.look(0, 1), 1);
        due("the tape stays, reads stay until then", d.key(KEY.length()), 3);
    }

    private static void promise8Ground() {
        ClodDesk d = new ClodDesk();
        int[] least = {0, 0, -1, 0, -1};
        int[] most = {999, 3, 99, 99, 5};
        for (int what = 0; what < 5; what++) {
            due("least", d.ground(15, what, least[what]), true);
            due("least of " + what, d.look(15, what + 3), least[what]);
            due("most", d.ground(15, what, most[what]), true);
            due("below", d.ground(15, what, least[what] - 1), false);
            due("above", d.ground(15, what, most[what] + 1), false);
            due("most of " + what, d.look(15, what + 3), most[what]);
            due("no cell", d.ground(16, what, 1), false);
            due("no cell", d.ground(-1, what, 1), false);
        }
        due("no what", d.ground(0, 5, 0), false);
        due("no what", d.ground(0, -1, 0), false);
    }

    private static void promise9Bounds() {
        ClodDesk d = new ClodDesk();
        int[][] wrong = {{0, 0, 5}, {0, 5, 5}, {0, 6, 5}, {0, 998, 1000}, {1, 0, 5}, {1, 5, 5}, {1, 6, 5}, {1, 98, 100},
            {2, 1, 2}, {-1, 1, 2}, {0, -3, -2}};
        for (int[] w : wrong) {
            due("bounds", d.bounds(w[0], w[1], w[2]), false);
        }
        d.ground(0, 0, 4);
        due("below S1 at first", d.look(0, 1), 0);
        d.ground(0, 0, 5);
        due("S1 at first", d.look(0, 1), 1);
        d.ground(0, 0, 19);
        due("S2 at first", d.look(0, 1), 1);
        d.ground(0, 2, 30);
        due("F1 at first", d.look(0, 2), 1);
        d.ground(0, 2, 60);
        due("F2 at first", d.look(0, 2), 2);
        due("S", d.bounds(0, 998, 999), true);
        due("STEEP at once", d.look(0, 1), 0);
        due("F", d.bounds(1, 1, 99), true);
        due("FEEL at once", d.look(0, 2), 1);
        due("S again", d.bounds(0, 1, 2), true);
        due("STEEP again", d.look(0, 1), 2);
    }

    private static void promise10Price() {
        ClodDesk d = new ClodDesk();
        due("none below 0", d.price(0, -1), false);
        due("none above 9999", d.price(1, 10000), false);
        due("no what", d.price(2, 1), false);
        due("no what", d.price(-1, 1), false);
        d.land(2, 2);
        Checks.key(d, KEY);
        d.bounds(0, 5, 999);
        sand(d, 0, 0);
        clay(d, 0, 1);
        // 4 + 2 + 6 and 4 + 2 + 5: 1 + 16 * 12 = 193, 1 + 16 * 11 = 177, 1: of 371 there are 520, 477, 2 parts
        due("changing costs 300 at first", d.draw(2, false, 0), 480 + 523);
        due("0", d.price(0, 0), true);
        due("changing costs nothing", d.draw(2, false, 0), 480 + 480);
        due("9999", d.price(0, 9999), true);
        due("not to change is cheaper", d.draw(2, false, 0), 480 + 523);
        d.ground(1, 0, 4);
        due("heights differ by less than S1", d.draw(2, false, 0), 480 + 523);
        d.price(1, 42);
        due("another price", d.draw(2, false, 0), 480 + 523);
        d.ground(1, 0, 5);
        due("BEND in place of BORDER", d.price(1, 42), true);
        due("heights differ by S1", d.draw(2, false, 0), 480 + 42 + 480);
    }

    private static void promise11Reads() {
        ClodDesk d = new ClodDesk();
        due("no kinds", d.reads(0, 0, 512, 0, 0, 0), false);
        Checks.key(d, KEY);
        due("no hand", d.reads(3, 0, 512, 0, 0, 0), false);
        due("no hand", d.reads(-1, 0, 512, 0, 0, 0), false);
        due("no kind", d.reads(0, 3, 512, 0, 0, 0), false);
        due("no kind", d.reads(0, -1, 512, 0, 0, 0), false);
        due("15 together", d.reads(0, 0, 15 * 32, 0, 0, 0), false);
        due("17 together", d.reads(0, 0, 512, 32, 0, 0), false);
        due("more than 16", d.reads(0, 0, 17 * 32, 0, 0, 0), false);
        due("17 behind", d.reads(0, 0, 17, 0, 0, 0), false);
        due("below 0", d.reads(0, 0, 512 + 32, -32, 0, 0), false);
        due("below 0", d.reads(0, 0, 32 * 17 - 16, -1, 0, 0), false);
        due("below 0", d.reads(0, 0, 9 * 32 + 9, -1, 0, 0), false);
        due("below 0", d.reads(0, 0, 17 * 32, -32, 0, 0), false);
        due("a fourth kind", d.reads(0, 0, 0, 16, 0, 0), false);
        due("a seventh kind", d.reads(0, 0, 0, 0, 0, 512), false);
        due("half and half", d.reads(1, 2, 8 * 32, 8 * 32, 0, 0), true);
        sand(d, 1, 0);
        Checks.bore(d, "0-9 peat red", 1, 0);
        due("of s: as at first", d.chance(2, 0, 0, 0), 1 + 12 * 16);
        due("of c: never told", d.chance(2, 0, 1, 0), 1);
        due("of p: told as s, told as p", d.chance(2, 0, 2, 0), 1 + 12 * 8 + 12 * 8);
        due("by the first it was told as s", d.chance(1, 0, 2, 0), 1 + 12 * 8);
        sand(d, 0, 0);
        due("another hand reads as at first", d.chance(3, 0, 2, 0), 1 + 12 * 8 + 12 * 8);
        due("a wrong row changes nothing", d.reads(1, 2, 8 * 32, 7 * 32, 0, 0), false);
        due("as before", d.chance(3, 0, 2, 0), 1 + 12 * 8 + 12 * 8);
        readsOfEight();
    }

    private static void readsOfEight() {
        ClodDesk d = new ClodDesk();
        Checks.key(d, "a:any(sand);b:any(silt);c:any(loam);d:any(clay);e:any(peat);f:any(chalk);g:any(red);h:any(grey);");
        due("all eight", d.reads(0, 7, 34, 34, 34, 34), false);
        due("1 and 2, 2 and 2, 2 and 2, 2 and 3", d.reads(0, 7, 34, 66, 66, 67), true);
        String[] texes = {"sand", "silt", "loam", "clay", "peat", "chalk"};
        int[] row = {1, 2, 2, 2, 2, 2};
        int want = 1;
        for (int k = 0; k < 6; k++) {
            Checks.bore(d, "0-9 " + texes[k] + " white", 0, 5);
            want += 12 * row[k];
            due("told as " + texes[k], d.chance(k + 1, 5, 7, 0), want);
        }
    }

    private static void promise12Value() {
        ClodDesk d = new ClodDesk();
        due("no kinds", d.value(0, 1), false);
        Checks.key(d, KEY);
        due("no kind", d.value(3, 1), false);
        due("no kind", d.value(-1, 1), false);
        due("below 0", d.value(0, -1), false);
        due("above 9999", d.value(0, 10000), false);
        due("0 at first", d.worth(0, 0), 0);
        due("most", d.value(0, 9999), true);
        due("all cells are best as the first kind", d.worth(0, 0), 16 * 9999);
        due("least", d.value(0, 0), true);
        due("nothing again", d.worth(0, 0), 0);
    }

    private static void promise15Look() {
        ClodDesk d = new ClodDesk();
        d.land(3, 3);
        int[] heights = {10, 10, 40, 12, 15, 10, 10, 35, 10};
        for (int cell = 0; cell < 9; cell++) {
            d.ground(cell, 0, heights[cell]);
        }
        int[] slopes = {2, 30, 30, 3, 20, 30, 25, 25, 25};
        int[] steeps = {0, 2, 2, 0, 2, 2, 2, 2, 2};
        for (int cell = 0; cell < 9; cell++) {
            due("SLOPE", d.look(cell, 0), slopes[cell]);
            due("STEEP", d.look(cell, 1), steeps[cell]);
            due("HEIGHT", d.look(cell, 3), heights[cell]);
        }
        d.bounds(0, 20, 30);
        due("S1 itself", d.look(4, 1), 1);
        due("S2 itself", d.look(5, 1), 2);
        int[][] felt = {{-1, -1}, {0, 0}, {29, 0}, {30, 1}, {59, 1}, {60, 2}, {99, 2}};
        for (int[] f : felt) {
            d.ground(8, 2, f[0]);
            due("FELT", d.look(8, 5), f[0]);
            due("FEEL", d.look(8, 2), f[1]);
        }
        due("ROCK", d.look(0, 4), 0);
        due("WORTH", d.look(0, 6), 1);
        due("OLD CLASS", d.look(0, 7), -1);
        due("no cell", Checks.lookThrows(d, 9, 0), 1);
        due("no cell", Checks.lookThrows(d, -1, 0), 1);
        due("no cell, no what", Checks.lookThrows(d, 9, 8), 1);
        due("no what", Checks.lookThrows(d, 8, 8), 2);
        due("no what", Checks.lookThrows(d, 0, -1), 2);
    }

    private static void promise16Like() {
        ClodDesk d = new ClodDesk();
        d.land(8, 8);
        due("no cell", d.like(0, 64), -1);
        due("no cell", d.like(-1, 0), -1);
        due("no cell", d.like(64, 0), -1);
        due("6 less FAR, 0 at least", d.like(0, 7), 6);
        due("by y", d.like(0, 8 * 5), 7);
        due("by the greater one", d.like(0, 8 * 2 + 3), 9);
        due("itself", d.like(9, 9), 12);
        d.ground(0, 2, 10);
        due("only one was felt", d.like(0, 1), 11);
        d.ground(1, 2, 29);
        due("both felt alike", d.like(0, 1), 13);
        d.ground(1, 2, 30);
        due("felt unlike", d.like(0, 1), 11);
        d.ground(0, 1, 2);
        due("unlike rocks", d.like(0, 1), 7);
        d.ground(9, 0, 5);
        due("unlike steep", d.like(0, 1), 5);
        due("the same both ways", d.like(1, 0), 5);
    }

    private static void promise17Chance() {
        ClodDesk d = new ClodDesk();
        due("no kinds", d.chance(0, 0, 0, 4), -1);
        Checks.key(d, KEY);
        due("all kinds weigh 1", d.chance(0, 3, 2, 0), 1);
        due("BEST of equals", d.chance(0, 3, -7, 2), 0);
        due("DOUBT", d.chance(0, 3, 99, 3), 667);
        clay(d, 0, 0);
        // at the far corner LIKE is 4 + 2 + 3
        due("WEIGHT", d.chance(1, 15, 1, 0), 1 + 9 * 16);
        due("PARTS", d.chance(1, 15, 1, 1), 145 * 1000 / 147);
        due("PARTS of another", d.chance(1, 15, 0, 1), 1000 / 147);
        due("BEST", d.chance(1, 15, 0, 2), 1);
        due("DOUBT", d.chance(1, 15, 0, 3), 1000 - 145 * 1000 / 147);
        due("all", d.chance(1, 15, 0, 4), 147);
        Checks.bore(d, "0-9 chalk red", 0, 0);
        due("a bore without a kind", d.chance(2, 15, 0, 4), 147);
        int[][] wrong = {{-1, 0, 0, 0}, {3, 0, 0, 0}, {0, -1, 0, 0}, {0, 16, 0, 0}, {0, 0, -1, 0}, {0, 0, 3, 0}, {0, 0, 3, 1},
            {0, 0, 0, -1}, {0, 0, 0, 5}};
        for (int[] w : wrong) {
            due("no such one", d.chance(w[0], w[1], w[2], w[3]), -1);
        }
    }

    private static void promise17Known() {
        ClodDesk d = new ClodDesk();
        Checks.key(d, KEY);
        clay(d, 0, 0);
        clay(d, 1, 0);
        d.strike(0);
        d.strike(2);
        int[] clays = {0, 1, 2, 1, 2};
        for (int n = 0; n < clays.length; n++) {
            due("known by " + n, d.chance(n, 0, 1, 0), 1 + clays[n] * 12 * 16);
        }
        Checks.key(d, "p:any(peat);q:any(chalk);");
        due("by the key of now", d.chance(4, 0, 1, 0), 1);
        Checks.key(d, "p:any(peat);q:any(clay);");
        due("by the key of now", d.chance(4, 0, 1, 0), 1 + 2 * 12 * 16);
    }

    private static void promise18LeftOut() {
        ClodDesk d = new ClodDesk();
        due("no notes", d.leftOut(0, 2), 0);
        Checks.key(d, KEY);
        sand(d, 0, 0);
        sand(d, 0, 1);
        clay(d, 0, 4);
        Checks.bore(d, "0-9 chalk red", 0, 0);
        // at 0 without it: s 1 + 11 * 16, c 1 + 11 * 16: s is the least; at 1 likewise; at 4: s 1 + 22 * 16, c 1
        due("known by 4", d.leftOut(4, 0), 3);
        due("right", d.leftOut(4, 1), 2);
        due("said", d.leftOut(4, 2), 2 * (177000 / 355) + 353000 / 355);
        due("one alone, left out", d.leftOut(1, 2), 333);
        due("and right, as the least", d.leftOut(1, 1), 1);
        due("no such n", d.leftOut(-1, 0), -1);
        due("no such n", d.leftOut(5, 0), -1);
        due("no such what", d.leftOut(4, 3), -1);
        due("no such what", d.leftOut(4, -1), -1);
        Checks.key(d, "");
        due("nothing counts", d.leftOut(4, 0), 0);
        due("nothing is right", d.leftOut(4, 1), 0);
    }
}

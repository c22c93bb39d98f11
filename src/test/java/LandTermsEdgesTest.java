/** The boundary cases that the document's terms ==== 1. name: the land, slopes, bounds, FAR and LIKE. */
public final class LandTermsEdgesTest {
    private static final Checks CHECKS = new Checks("LandTermsEdgesTest");

    public static void main(String[] args) {
        sidesOfALand();
        cellsAreNumberedByRows();
        whatACellHasAtFirst();
        whatACellMayHave();
        slopeLooksFourWays();
        slopeIsTheGreatest();
        slopeDoesNotGoRoundARow();
        boundsMayBe();
        steepByItsBounds();
        feelByItsBounds();
        farIsTheGreaterDifference();
        likeOfRocks();
        likeOfSteep();
        likeOfFeel();
        likeAtItsEnds();
        CHECKS.end();
    }

    private static void due(String call, int got, int want) {
        CHECKS.due(call, got, want);
    }

    private static void due(String call, boolean got, boolean want) {
        CHECKS.due(call, got, want);
    }

    private static ClodDesk desk(int w, int h) {
        ClodDesk d = new ClodDesk();
        due("land", d.land(w, h), true);
        return d;
    }

    /** "LAND of W by H CELLS (2 .. 8 each; 4 by 4 at first)" */
    private static void sidesOfALand() {
        CHECKS.ends("W", 2, 8, 0, v -> new ClodDesk().land(v, 4) ? 1 : 0);
        CHECKS.ends("H", 2, 8, 0, v -> new ClodDesk().land(4, v) ? 1 : 0);
        for (int w = 2; w <= 8; w++) {
            for (int h = 2; h <= 8; h++) {
                ClodDesk d = desk(w, h);
                due("W", d.count(0), w);
                due("H", d.count(1), h);
                due("the last cell of " + w + " by " + h, d.like(0, w * h - 1) > 0, true);
                due("behind the last cell of " + w + " by " + h, d.like(0, w * h), -1);
            }
        }
        ClodDesk first = new ClodDesk();
        due("W at first", first.count(0), 4);
        due("H at first", first.count(1), 4);
        due("the last cell at first", first.look(15, 3), 0);
        due("behind the last cell at first", Checks.lookThrows(first, 16, 3), 1);
    }

    /** "numbered by rows (y times W and x)" */
    private static void cellsAreNumberedByRows() {
        ClodDesk wide = desk(3, 2);
        due("the end of a row and the begin of the next are two columns apart", wide.like(2, 3), 4 + 2 + 4);
        due("0 and 3 are one above the other", wide.like(0, 3), 4 + 2 + 5);
        ClodDesk high = desk(2, 3);
        due("2 and 3 are side by side", high.like(2, 3), 4 + 2 + 5);
        due("0 and 4 are two rows apart", high.like(0, 4), 4 + 2 + 4);
    }

    /** "a ROCK 0 .. 3 (0 at first), FELT 0 .. 99 or not (NONE; at first)"; WORTH 1, no OLD CLASS, as 5. and 6. say */
    private static void whatACellHasAtFirst() {
        int[] atFirst = {0, 0, ClodDesk.NONE, 0, 0, ClodDesk.NONE, 1, ClodDesk.NONE};
        ClodDesk d = new ClodDesk();
        for (int cell = 0; cell < 16; cell++) {
            for (int what = 0; what < 8; what++) {
                due("look(" + cell + ", " + what + ") at first", d.look(cell, what), atFirst[what]);
            }
        }
    }

    /** "each a HEIGHT 0 .. 999, a ROCK 0 .. 3, FELT 0 .. 99 or not (NONE)" */
    private static void whatACellMayHave() {
        ClodDesk d = new ClodDesk();
        CHECKS.ends("HEIGHT", 0, 999, 0, v -> d.ground(7, 0, v) ? 1 : 0);
        CHECKS.ends("ROCK", 0, 3, 0, v -> d.ground(7, 1, v) ? 1 : 0);
        CHECKS.ends("FELT", -1, 99, 0, v -> d.ground(7, 2, v) ? 1 : 0);
        due("FELT 0 is not NONE", d.ground(7, 2, 0), true);
        due("FELT 0", d.look(7, 5), 0);
        due("FEEL of 0", d.look(7, 2), 0);
        due("not felt any more", d.ground(7, 2, ClodDesk.NONE), true);
        due("FELT", d.look(7, 5), ClodDesk.NONE);
        due("FEEL", d.look(7, 2), ClodDesk.NONE);
    }

    private static void slopesAre(ClodDesk d, int... want) {
        for (int cell = 0; cell < want.length; cell++) {
            due("SLOPE of " + cell, d.look(cell, 0), want[cell]);
        }
    }

    /** "difference of its HEIGHT from that of a CELL beside, above or below": not from one across a corner */
    private static void slopeLooksFourWays() {
        ClodDesk hill = desk(3, 3);
        hill.ground(4, 0, 50);
        slopesAre(hill, 0, 50, 0, 50, 50, 50, 0, 50, 0);
        ClodDesk pit = desk(3, 3);
        for (int cell = 0; cell < 9; cell++) {
            pit.ground(cell, 0, cell == 4 ? 0 : 50);
        }
        slopesAre(pit, 0, 50, 0, 50, 50, 50, 0, 50, 0);
        ClodDesk corner = desk(2, 2);
        corner.ground(3, 0, 7);
        slopesAre(corner, 0, 7, 7, 7);
    }

    /** "the greatest difference": whichever side it is on, up or down, up to 999 */
    private static void slopeIsTheGreatest() {
        int[] sides = {1, 3, 5, 7};
        for (int side : sides) {
            ClodDesk d = desk(3, 3);
            d.ground(4, 0, 100);
            for (int other : sides) {
                d.ground(other, 0, other == side ? 140 : 70);
            }
            due("the greatest is up at " + side, d.look(4, 0), 40);
            d.ground(side, 0, 69);
            due("the greatest is down at " + side, d.look(4, 0), 31);
        }
        ClodDesk d = desk(2, 2);
        d.ground(0, 0, 999);
        slopesAre(d, 999, 999, 999, 0);
    }

    /** A row's last cell is not beside the first one of the next row, nor the first row beside the last. */
    private static void slopeDoesNotGoRoundARow() {
        ClodDesk d = desk(3, 3);
        d.ground(2, 0, 30);
        slopesAre(d, 0, 30, 30, 0, 0, 30, 0, 0, 0);
        d.ground(2, 0, 0);
        d.ground(6, 0, 30);
        slopesAre(d, 0, 0, 0, 30, 0, 0, 30, 30, 0);
    }

    /** "Bounds S1 < S2 (1 .. 999; 5, 20 at first), F1 < F2 (1 .. 99; 30, 60 at first)" */
    private static void boundsMayBe() {
        ClodDesk d = new ClodDesk();
        int[] most = {999, 99};
        for (int what = 0; what < 2; what++) {
            int kind = what;
            CHECKS.ends("the lower bound " + what, 1, most[what] - 1, 0, v -> d.bounds(kind, v, most[kind]) ? 1 : 0);
            CHECKS.ends("the upper bound " + what, 2, most[what], 0, v -> d.bounds(kind, 1, v) ? 1 : 0);
            due("one apart", d.bounds(what, 40, 41), true);
            due("the same", d.bounds(what, 40, 40), false);
            due("the wrong way round", d.bounds(what, 41, 40), false);
        }
        due("99 is an end of F alone", d.bounds(0, 99, 100), true);
        due("99 is an end of F", d.bounds(1, 99, 100), false);
    }

    private static void steepOf(ClodDesk d, int slope, int want) {
        d.ground(0, 0, slope);
        due("SLOPE", d.look(0, 0), slope);
        due("STEEP of " + slope, d.look(0, 1), want);
    }

    /** "STEEP of a CELL: 0 if SLOPE is below S1, 1 if below S2, else 2" */
    private static void steepByItsBounds() {
        ClodDesk d = new ClodDesk();
        int[][] atFirst = {{0, 0}, {4, 0}, {5, 1}, {19, 1}, {20, 2}, {999, 2}};
        for (int[] s : atFirst) {
            steepOf(d, s[0], s[1]);
        }
        due("the least bounds", d.bounds(0, 1, 2), true);
        steepOf(d, 0, 0);
        steepOf(d, 1, 1);
        steepOf(d, 2, 2);
        due("the greatest bounds", d.bounds(0, 998, 999), true);
        steepOf(d, 997, 0);
        steepOf(d, 998, 1);
        steepOf(d, 999, 2);
        due("what was refused", d.bounds(0, 999, 999), false);
        steepOf(d, 998, 1);
    }

    private static void feelOf(ClodDesk d, int felt, int want) {
        due("ground", d.ground(5, 2, felt), true);
        due("FEEL of " + felt, d.look(5, 2), want);
    }

    /** "FEEL: by FELT, F1, F2 likewise (none if it was not felt)" */
    private static void feelByItsBounds() {
        ClodDesk d = new ClodDesk();
        int[][] atFirst = {{-1, -1}, {0, 0}, {29, 0}, {30, 1}, {59, 1}, {60, 2}, {99, 2}};
        for (int[] f : atFirst) {
            feelOf(d, f[0], f[1]);
        }
        due("the least bounds", d.bounds(1, 1, 2), true);
        feelOf(d, -1, -1);
        feelOf(d, 0, 0);
        feelOf(d, 1, 1);
        feelOf(d, 2, 2);
        due("the greatest bounds", d.bounds(1, 98, 99), true);
        feelOf(d, 97, 0);
        feelOf(d, 98, 1);
        feelOf(d, 99, 2);
        due("S1, S2 leave FEEL alone", d.bounds(0, 1, 2), true);
        feelOf(d, 97, 0);
        due("F1, F2 leave STEEP alone", d.look(5, 1), 0);
    }

    /** "FAR of two CELLS: the greater of the differences of x and y"; "6 less FAR (0 at least)" */
    private static void farIsTheGreaterDifference() {
        ClodDesk d = desk(8, 8);
        int[] byFar = {6, 5, 4, 3, 2, 1, 0, 0};
        for (int x = 0; x < 8; x++) {
            for (int y = 0; y < 8; y++) {
                int want = 4 + 2 + byFar[Math.max(x, y)];
                due("like from the first corner to " + x + ", " + y, d.like(0, 8 * y + x), want);
                due("and back", d.like(8 * y + x, 0), want);
                due("from the last corner", d.like(63, 63 - 8 * y - x), want);
            }
        }
    }

    /** "4 if their ROCKS are the same": each of the four rocks with each */
    private static void likeOfRocks() {
        ClodDesk d = new ClodDesk();
        for (int a = 0; a < 4; a++) {
            for (int b = 0; b < 4; b++) {
                d.ground(0, 1, a);
                d.ground(1, 1, b);
                due("rocks " + a + ", " + b, d.like(0, 1), (a == b ? 4 : 0) + 2 + 5);
            }
        }
    }

    /** "2 if STEEP is": by the three of them, not by SLOPE */
    private static void likeOfSteep() {
        ClodDesk d = desk(6, 2);
        // each of both corners stands alone above flat land, so its slope is its height
        int[] slopes = {0, 4, 5, 19, 20, 999};
        for (int a : slopes) {
            for (int b : slopes) {
                d.ground(0, 0, a);
                d.ground(5, 0, b);
                int steepA = a < 5 ? 0 : a < 20 ? 1 : 2;
                int steepB = b < 5 ? 0 : b < 20 ? 1 : 2;
                due("slopes " + a + ", " + b, d.like(0, 5), 4 + (steepA == steepB ? 2 : 0) + 1);
            }
        }
    }

    /** "2 if both have the same FEEL": two that were not felt have none */
    private static void likeOfFeel() {
        ClodDesk d = new ClodDesk();
        int[] felt = {-1, 0, 29, 30, 59, 60, 99};
        int[] feel = {-1, 0, 0, 1, 1, 2, 2};
        for (int a = 0; a < felt.length; a++) {
            for (int b = 0; b < felt.length; b++) {
                d.ground(0, 2, felt[a]);
                d.ground(1, 2, felt[b]);
                int more = feel[a] >= 0 && feel[a] == feel[b] ? 2 : 0;
                due("felt " + felt[a] + ", " + felt[b], d.like(0, 1), 4 + 2 + more + 5);
            }
        }
    }

    private static void likeAtItsEnds() {
        ClodDesk d = desk(8, 8);
        d.ground(9, 2, 50);
        due("all that can be alike", d.like(9, 9), 14);
        d.ground(56, 1, 3);
        d.ground(56, 0, 20);
        d.ground(56, 2, 60);
        d.ground(0, 2, 59);
        due("nothing is alike", d.like(0, 56), 0);
        d.ground(0, 2, 60);
        due("but what was felt", d.like(0, 56), 2);
    }
}

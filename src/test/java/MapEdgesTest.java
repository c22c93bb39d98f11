/** The boundary cases that the document's terms ==== 6. and promises 12, 23 to 26 name: old maps, worth, two hands. */
public final class MapEdgesTest {
    private static final Checks CHECKS = new Checks("MapEdgesTest");
    private static final String KEY = "s:any(sand);c:any(clay);p:any(peat);";
    private static final int NO_HANDS = -1000000;

    public static void main(String[] args) {
        oldClassesMayBe();
        turnedArguments();
        turnedCountsWhatCounts();
        turnedToTheLeastOfMost();
        agreeOfTheOldMap();
        seamArguments();
        seamOfTheOldMap();
        seamOfBests();
        mapsWithoutKinds();
        mapsOfOneKind();
        mapsOfTheLargestLand();
        valuesMayBe();
        worthArguments();
        worthAtItsEnds();
        fairIsCutForEachCell();
        unsureByAPart();
        unsureOfBestAlone();
        handsArguments();
        handsAtCellsOfBoth();
        handsTheLatestOfEach();
        kappaInLeastTerms();
        kappaOfNought();
        CHECKS.end();
    }

    private static void due(String call, int got, int want) {
        CHECKS.due(call, got, want);
    }

    private static void due(String call, boolean got, boolean want) {
        CHECKS.due(call, got, want);
    }

    private static ClodDesk desk(int w, int h) {
        ClodDesk d = new ClodDesk();
        d.land(w, h);
        Checks.key(d, KEY);
        return d;
    }

    private static void classes(ClodDesk d, int... classes) {
        for (int cell = 0; cell < classes.length; cell++) {
            due("class", d.ground(cell, 4, classes[cell]), true);
        }
    }

    /** "OLD CLASSES 0 .. 5 of CELLS (or none; at first)" */
    private static void oldClassesMayBe() {
        ClodDesk d = desk(4, 4);
        for (int cell = 0; cell < 16; cell++) {
            due("none at first", d.look(cell, 7), ClodDesk.NONE);
        }
        CHECKS.ends("OLD CLASS", -1, 5, 0, v -> d.ground(3, 4, v) ? 1 : 0);
        for (int c = -1; c <= 5; c++) {
            d.ground(3, 4, c);
            due("OLD CLASS", d.look(3, 7), c);
        }
    }

    /** Promise 23: "what 0 .. 7: BORES of that KIND, 8: TURNED (NONE). -2: no such CLASS, what." */
    private static void turnedArguments() {
        for (ClodDesk d : new ClodDesk[] {new ClodDesk(), desk(4, 4)}) {
            CHECKS.ends("class", 0, 5, -2, v -> d.turned(v, 0));
            CHECKS.ends("class of TURNED", 0, 5, -2, v -> d.turned(v, 8));
            CHECKS.ends("what", 0, 8, -2, v -> d.turned(5, v));
            for (int c = 0; c < 6; c++) {
                for (int what = 0; what < 8; what++) {
                    due("no bores", d.turned(c, what), 0);
                }
                due("not turned", d.turned(c, 8), ClodDesk.NONE);
            }
        }
    }

    private static void turnedIs(ClodDesk d, int oldClass, int... want) {
        for (int what = 0; what < want.length; what++) {
            due("turned(" + oldClass + ", " + what + ")", d.turned(oldClass, what), want[what]);
        }
    }

    /** "BORES that COUNT and are of that KIND at CELLS of that CLASS" */
    private static void turnedCountsWhatCounts() {
        ClodDesk d = desk(4, 4);
        classes(d, 0, 0, 5, -1);
        Checks.boreOf(d, 'c', 0, 0);
        Checks.boreOf(d, 'c', 1, 0);
        Checks.boreOf(d, 'p', 2, 1);
        Checks.boreOf(d, 'p', 0, 2);
        Checks.boreOf(d, 's', 0, 3);
        Checks.boreOf(d, 'k', 0, 1);
        turnedIs(d, 0, 0, 2, 1, 0, 0, 0, 0, 0, 1);
        turnedIs(d, 5, 0, 0, 1, 0, 0, 0, 0, 0, 2);
        turnedIs(d, 1, 0, 0, 0, 0, 0, 0, 0, 0, -1);
        d.strike(3);
        turnedIs(d, 5, 0, 0, 0, 0, 0, 0, 0, 0, -1);
        d.strike(6);
        turnedIs(d, 5, 0, 0, 1, 0, 0, 0, 0, 0, 2);
        d.ground(3, 4, 5);
        turnedIs(d, 5, 1, 0, 1, 0, 0, 0, 0, 0, 0);
        d.ground(2, 4, -1);
        turnedIs(d, 5, 1, 0, 0, 0, 0, 0, 0, 0, 0);
        Checks.key(d, "a:any(sand);b:any(silt);c:any(loam);d:any(clay);e:any(black);f:any(white);g:any(chalk);h:any(peat);");
        turnedIs(d, 0, 0, 0, 0, 2, 0, 0, 1, 1, 3);
        Checks.key(d, "");
        turnedIs(d, 0, 0, 0, 0, 0, 0, 0, 0, 0, -1);
    }

    /** "TURNED: the KIND with most of these, of several the least (none, if there are none at all)" */
    private static void turnedToTheLeastOfMost() {
        ClodDesk d = desk(4, 4);
        classes(d, 3);
        due("none at all", d.turned(3, 8), -1);
        Checks.boreOf(d, 'p', 0, 0);
        due("one alone", d.turned(3, 8), 2);
        Checks.boreOf(d, 'c', 0, 0);
        due("of two the least", d.turned(3, 8), 1);
        Checks.boreOf(d, 's', 0, 0);
        due("of three the least", d.turned(3, 8), 0);
        Checks.boreOf(d, 'p', 0, 0);
        due("the most", d.turned(3, 8), 2);
        Checks.boreOf(d, 'c', 0, 0);
        due("of those with most the least", d.turned(3, 8), 1);
    }

    /** "AGREE of the old map: at how many CELLS with a CLASS that can be TURNED that is BEST" */
    private static void agreeOfTheOldMap() {
        ClodDesk d = desk(2, 2);
        due("no classes", d.maps(0, 0), 0);
        classes(d, 0, 0, 0, 0);
        due("best is kind 0, but nothing is turned", d.maps(0, 0), 0);
        Checks.boreOf(d, 'c', 0, 0);
        due("all agree", d.maps(0, 0), 4);
        classes(d, 0, 0, 0, 1);
        due("one can't be turned", d.maps(0, 0), 3);
        classes(d, 0, 0, -1, 1);
        due("one has no class", d.maps(0, 0), 2);
        d.strike(0);
        due("nothing is turned", d.maps(0, 0), 0);
        ClodDesk e = desk(2, 2);
        classes(e, 1, 2, 2, 2);
        Checks.boreOf(e, 'c', 0, 0);
        Checks.boreOf(e, 's', 0, 1);
        // at 0 c weighs 193 to 177, at 1 s does, elsewhere both 177: best is s; 1 is turned to c, 2 to s
        due("each agrees", e.maps(0, 0), 4);
        classes(e, 2, 1, 2, 2);
        // 1 is turned to s, 2 to c: neither 0 (c, c agrees) nor 1 (s, s agrees) but 2, 3 (c is not s)
        due("two agree", e.maps(0, 0), 2);
        for (int x : new int[] {-1, 1, Integer.MIN_VALUE, Integer.MAX_VALUE}) {
            due("x isn't looked at", e.maps(0, x), 2);
        }
    }

    /** Promise 24: "of the SEAM behind column x"; "NONE: no such what, x" */
    private static void seamArguments() {
        for (int w = 2; w <= 8; w++) {
            ClodDesk d = desk(w, 2);
            CHECKS.ends("x of an old seam", 0, w - 2, -1, v -> d.maps(1, v));
            CHECKS.ends("x of a seam of bests", 0, w - 2, -1, v -> d.maps(2, v));
        }
        ClodDesk d = desk(4, 4);
        CHECKS.ends("what", 0, 2, -1, v -> d.maps(v, 0));
        CHECKS.ends("what without a key", 0, 2, -1, v -> new ClodDesk().maps(v, 0));
    }

    /** "at how many rows the OLD CLASSES of both are TURNED to unlike KINDS" */
    private static void seamOfTheOldMap() {
        ClodDesk d = desk(3, 3);
        classes(d, 0, 1, 0, 0, 1, 0, 0, 1, 0);
        due("nothing is turned", d.maps(1, 0), 0);
        Checks.boreOf(d, 'c', 0, 0);
        due("one of both is turned", d.maps(1, 0), 0);
        Checks.boreOf(d, 'c', 0, 1);
        due("both to the same", d.maps(1, 0), 0);
        Checks.boreOf(d, 's', 0, 4);
        due("the least of both", d.turned(1, 8), 0);
        due("each row", d.maps(1, 0), 3);
        due("each row of the last seam", d.maps(1, 1), 3);
        d.ground(0, 4, -1);
        due("the first has no class, and nothing turns 0", d.maps(1, 0), 0);
        Checks.boreOf(d, 'c', 0, 8);
        due("0 is turned again", d.turned(0, 8), 1);
        due("rows with both", d.maps(1, 0), 2);
        due("the last seam has all", d.maps(1, 1), 3);
        d.ground(5, 4, 1);
        due("the same class on both sides", d.maps(1, 1), 2);
        d.ground(8, 4, 2);
        due("unlike classes that are turned to one kind", d.turned(2, 8), 1);
        due("and nothing turns 0", d.turned(0, 8), -1);
        due("one row", d.maps(1, 1), 1);
    }

    /** "and at how many BESTS of both are unlike" */
    private static void seamOfBests() {
        ClodDesk d = desk(3, 2);
        due("no bores", d.maps(2, 0), 0);
        Checks.boreOf(d, 'c', 0, 2);
        due("all alike", d.maps(2, 1), 0);
        Checks.boreOf(d, 's', 0, 0);
        // LIKE to 0 and to 2: in column 0 12 or 11 and 10, in column 1 11 and 11, in column 2 10 and 12 or 11
        due("between the first two", d.maps(2, 0), 0);
        due("between the last two", d.maps(2, 1), 2);
        d.ground(5, 1, 1);
        // at 5 LIKE to 0 is 6, to 2 is 7: c still
        due("as before", d.maps(2, 1), 2);
        d.ground(0, 1, 1);
        // at 5: to 0 it is 10, to 2 it is 7: s
        due("one row", d.maps(2, 1), 1);
    }

    private static void mapsWithoutKinds() {
        ClodDesk d = new ClodDesk();
        classes(d, 0, 1, 2);
        Checks.boreOf(d, 's', 0, 0);
        for (int what = 0; what < 3; what++) {
            due("nothing to tell", d.maps(what, 0), 0);
            due("nothing to tell", d.maps(what, 2), 0);
            due("no such seam", d.maps(what, 3), what == 0 ? 0 : -1);
        }
    }

    private static void mapsOfOneKind() {
        ClodDesk d = new ClodDesk();
        Checks.key(d, "x:always;");
        classes(d, 0, 1, 1, 0);
        due("nothing is turned", d.maps(0, 0), 0);
        Checks.boreOf(d, 's', 0, 0);
        due("the two of class 0", d.maps(0, 0), 2);
        Checks.boreOf(d, 's', 0, 1);
        due("all four that have a class", d.maps(0, 0), 4);
        due("no seam of one kind", d.maps(1, 0), 0);
        due("no seam of one kind", d.maps(2, 0), 0);
    }

    /** 64 cells, and fewer of them behind that: what the larger land had is gone */
    private static void mapsOfTheLargestLand() {
        ClodDesk d = desk(8, 8);
        for (int cell = 0; cell < 64; cell++) {
            d.ground(cell, 4, cell % 2);
        }
        Checks.boreOf(d, 's', 0, 0);
        due("every second cell", d.maps(0, 0), 32);
        Checks.boreOf(d, 'c', 0, 63);
        due("each row has a seam", d.maps(1, 6), 8);
        due("each row has a seam", d.maps(1, 0), 8);
        d.land(3, 3);
        for (int cell = 0; cell < 9; cell++) {
            d.ground(cell, 4, cell % 2);
        }
        Checks.boreOf(d, 's', 0, 0);
        Checks.boreOf(d, 'c', 0, 1);
        Checks.boreOf(d, 's', 0, 8);
        due("best is s, at 1 too", d.chance(3, 1, 0, 2), 0);
        due("those of class 0", d.maps(0, 0), 5);
        due("each of three rows", d.maps(1, 0), 3);
        due("each of three rows", d.maps(1, 1), 3);
        due("bests are all alike", d.maps(2, 0), 0);
    }

    /** "VALUE of a KIND 0 .. 9999 (0 at first)"; promise 12, "false: no such ones" */
    private static void valuesMayBe() {
        due("no kinds", new ClodDesk().value(0, 0), false);
        ClodDesk d = desk(4, 4);
        due("0 at first", d.worth(0, 0), 0);
        CHECKS.ends("kind", 0, 2, 0, v -> d.value(v, 5) ? 1 : 0);
        for (int kind = 0; kind < 3; kind++) {
            int k = kind;
            CHECKS.ends("VALUE", 0, 9999, 0, v -> d.value(k, v) ? 1 : 0);
        }
        due("each has the last one", d.worth(0, 0), 16 * 9999);
        due("each has the last one", d.worth(1, 0), 16 * 9999);
        ClodDesk eight = new ClodDesk();
        Checks.key(eight, "a:always;b:always;c:always;d:always;e:always;f:always;g:always;h:always;");
        CHECKS.ends("kind of eight", 0, 7, 0, v -> eight.value(v, 8) ? 1 : 0);
        due("two of eight have a value", eight.worth(1, 0), 16 * (16 / 8));
    }

    /** Promise 25: "p (looked at for that alone)"; "NONE: no such what, p, or no KINDS" */
    private static void worthArguments() {
        ClodDesk none = new ClodDesk();
        for (int what = 0; what < 3; what++) {
            due("no kinds", none.worth(what, 0), -1);
        }
        ClodDesk d = desk(4, 4);
        CHECKS.ends("what", 0, 2, -1, v -> d.worth(v, 0));
        CHECKS.ends("p", 0, 1000, -1, v -> d.worth(2, v));
        for (int p : new int[] {-1, 1001, Integer.MIN_VALUE, Integer.MAX_VALUE}) {
            due("p isn't looked at", d.worth(0, p), 0);
            due("p isn't looked at", d.worth(1, p), 0);
        }
        Checks.key(d, "");
        due("no kinds any more", d.worth(0, 0), -1);
    }

    /** "WORTH of the land: over all CELLS the VALUE of BEST": 4 .. 64 cells, 0 .. 9999 each */
    private static void worthAtItsEnds() {
        ClodDesk d = desk(8, 8);
        for (int kind = 0; kind < 3; kind++) {
            d.value(kind, 9999);
        }
        due("the most", d.worth(0, 0), 64 * 9999);
        due("the most that is fair", d.worth(1, 0), 64 * 9999);
        for (int i = 0; i < 60; i++) {
            Checks.boreOf(d, 's', 0, i);
        }
        due("with sixty bores", d.worth(1, 0), 64 * 9999);
        d.land(2, 2);
        d.value(0, 1);
        due("the least land", d.worth(0, 0), 4);
        d.value(0, 0);
        due("best is the first kind, of no value", d.worth(0, 0), 0);
        Checks.boreOf(d, 'p', 0, 0);
        due("best is the last kind", d.worth(0, 0), 4 * 9999);
    }

    /** "FAIR: over all CELLS the sum of VALUES times WEIGHTS by all WEIGHTS, cut for each CELL" */
    private static void fairIsCutForEachCell() {
        ClodDesk d = desk(2, 2);
        int[][] values = {{0, 0, 2, 0}, {0, 0, 3, 1}, {1, 1, 3, 1}, {1, 1, 4, 2}, {0, 0, 9999, 3333}, {9999, 9999, 9998, 9998}};
        for (int[] v : values) {
            for (int kind = 0; kind < 3; kind++) {
                d.value(kind, v[kind]);
            }
            due("fair", d.worth(1, 0), 4 * v[3]);
        }
        Checks.boreOf(d, 's', 0, 0);
        // at 0 193, 1, 1 of 195, elsewhere 177, 1, 1 of 179
        d.value(0, 0);
        d.value(1, 100);
        d.value(2, 94);
        due("194 by 195, 194 by 179", d.worth(1, 0), 0 + 3);
        d.value(2, 95);
        due("195 by 195, 195 by 179", d.worth(1, 0), 1 + 3);
        d.value(2, 78);
        due("178 by 195, 178 by 179", d.worth(1, 0), 0);
        d.value(2, 79);
        due("179 by 195, 179 by 179", d.worth(1, 0), 3);
    }

    /** "UNSURE for a part p (0 .. 1000): CELLS where of the KINDS with PARTS of p at least (and BEST) VALUES are unlike" */
    private static void unsureByAPart() {
        ClodDesk d = desk(2, 2);
        due("all of one value", d.worth(2, 0), 0);
        d.value(2, 1);
        due("all kinds have 333 parts", d.worth(2, 333), 4);
        due("none has 334", d.worth(2, 334), 0);
        due("p 0", d.worth(2, 0), 4);
        due("p 1000", d.worth(2, 1000), 0);
        Checks.boreOf(d, 's', 0, 0);
        // at 0 of 195: 989 and 5 parts each, elsewhere of 179: 988 and 5 each
        due("5 parts", d.worth(2, 5), 4);
        due("6 parts", d.worth(2, 6), 0);
        Checks.boreOf(d, 'p', 0, 0);
        Checks.boreOf(d, 'p', 0, 3);
        d.ground(0, 1, 1);
        // LIKE to 0 and 3 is 12, 7 at 0, 7, 12 at 3, 7, 11 elsewhere: s 193, 113, 113, p 305, 305, 289 of 499, 419, 403
        due("at 0 s has 386", d.chance(3, 0, 0, 1), 386);
        due("at 3 s has 269", d.chance(3, 3, 0, 1), 269);
        due("elsewhere s has 280", d.chance(3, 1, 0, 1), 280);
        int[][] byPart = {{269, 4}, {270, 3}, {280, 3}, {281, 1}, {386, 1}, {387, 0}};
        for (int[] part : byPart) {
            due("p " + part[0], d.worth(2, part[0]), part[1]);
        }
        d.value(0, 1);
        due("s and p are alike, c has few parts", d.worth(2, 100), 0);
        due("c with the least part", d.worth(2, 2), 4);
        due("c without", d.worth(2, 3), 0);
    }

    /** "(and BEST)": where no kind has p parts, BEST is there alone; kinds below p are not asked */
    private static void unsureOfBestAlone() {
        ClodDesk d = desk(2, 2);
        for (int kind = 0; kind < 3; kind++) {
            d.value(kind, kind);
        }
        for (int p : new int[] {334, 500, 999, 1000}) {
            due("best has less than " + p, d.worth(2, p), 0);
        }
        ClodDesk one = new ClodDesk();
        Checks.key(one, "x:always;");
        one.value(0, 7);
        due("one kind alone has 1000 parts", one.worth(2, 1000), 0);
        due("one kind alone", one.worth(2, 0), 0);
    }

    private static void handsAre(ClodDesk d, int a, int b, int... want) {
        for (int what = 0; what < 5; what++) {
            due("hands(" + a + ", " + b + ", " + what + ")", d.hands(a, b, what), want[what]);
        }
    }

    /** Promise 26: "-1000000: no such HANDS, both the same, no such what" */
    private static void handsArguments() {
        for (ClodDesk d : new ClodDesk[] {new ClodDesk(), desk(4, 4)}) {
            CHECKS.ends("the first hand", 0, 1, NO_HANDS, v -> d.hands(v, 2, 0));
            CHECKS.ends("the first hand", 1, 2, NO_HANDS, v -> d.hands(v, 0, 0));
            CHECKS.ends("the second hand", 0, 1, NO_HANDS, v -> d.hands(2, v, 0));
            CHECKS.ends("the second hand", 1, 2, NO_HANDS, v -> d.hands(0, v, 0));
            CHECKS.ends("what", 0, 4, NO_HANDS, v -> d.hands(0, 1, v));
            for (int a = 0; a < 3; a++) {
                for (int b = 0; b < 3; b++) {
                    for (int what = 0; what < 5; what++) {
                        due("hands of no bores", d.hands(a, b, what), a == b ? NO_HANDS : 0);
                    }
                }
            }
        }
    }

    /** "CELLS at which each has a BORE that COUNTS" */
    private static void handsAtCellsOfBoth() {
        ClodDesk d = desk(8, 8);
        Checks.boreOf(d, 's', 0, 0);
        Checks.boreOf(d, 's', 2, 1);
        handsAre(d, 0, 2, 0, 0, 0, 0, 0);
        Checks.boreOf(d, 'c', 2, 0);
        handsAre(d, 0, 2, 1, 0, 0, 0, 1);
        Checks.boreOf(d, 'k', 0, 1);
        handsAre(d, 0, 2, 1, 0, 0, 0, 1);
        Checks.boreOf(d, 'c', 0, 63);
        Checks.boreOf(d, 'c', 2, 63);
        // 0: s c, 2: c c: same 1, by chance 2: (2 - 2) by (4 - 2)
        handsAre(d, 0, 2, 2, 1, 2, 0, 1);
        handsAre(d, 2, 0, 2, 1, 2, 0, 1);
        handsAre(d, 0, 1, 0, 0, 0, 0, 0);
        d.strike(2);
        handsAre(d, 0, 2, 1, 1, 1, 0, 0);
        Checks.key(d, "");
        handsAre(d, 0, 2, 0, 0, 0, 0, 0);
    }

    /** "(the latest one of each there)": of those that count */
    private static void handsTheLatestOfEach() {
        ClodDesk d = desk(4, 4);
        Checks.boreOf(d, 's', 0, 5);
        Checks.boreOf(d, 's', 1, 5);
        due("same", d.hands(0, 1, 1), 1);
        Checks.boreOf(d, 'c', 0, 5);
        due("the latest is another", d.hands(0, 1, 1), 0);
        due("still one cell", d.hands(0, 1, 0), 1);
        Checks.boreOf(d, 'k', 0, 5);
        due("chalk has no kind, the clay is the latest", d.hands(0, 1, 1), 0);
        Checks.boreOf(d, 'c', 1, 5);
        due("same again", d.hands(0, 1, 1), 1);
        d.strike(2);
        due("the clay is struck, the sand is the latest", d.hands(0, 1, 1), 0);
        d.strike(4);
        due("both clays are struck", d.hands(0, 1, 1), 1);
        d.strike(5);
        due("one of them stands again", d.hands(0, 1, 1), 0);
    }

    private static void pairs(ClodDesk d, String byOne, String byOther) {
        for (int cell = 0; cell < byOne.length(); cell++) {
            Checks.boreOf(d, byOne.charAt(cell), 0, cell);
            Checks.boreOf(d, byOther.charAt(cell), 1, cell);
        }
    }

    private static void kappaIs(String byOne, String byOther, int... want) {
        ClodDesk d = desk(8, 8);
        pairs(d, byOne, byOther);
        handsAre(d, 0, 1, want);
        handsAre(d, 1, 0, want);
    }

    /** "KAPPA: (same times many, less BY CHANCE) by (many times many, less BY CHANCE), in least terms" */
    private static void kappaInLeastTerms() {
        kappaIs("sc", "sc", 2, 2, 2, 1, 1);
        kappaIs("scp", "scp", 3, 3, 3, 1, 1);
        kappaIs("scpp", "scps", 4, 3, 5, 7, 11);
        kappaIs("sscc", "scsc", 4, 2, 8, 0, 1);
        kappaIs("ssccpp", "ssccps", 6, 5, 12, 3, 4);
        kappaIs("sc", "cs", 2, 0, 2, -1, 1);
        kappaIs("scp", "cps", 3, 0, 3, -1, 2);
        kappaIs("sssc", "csss", 4, 2, 10, -1, 3);
        kappaIs("ssssssssssssssssssssssssssssss", "sssssssssssssssssssssssssssssc", 30, 29, 870, 0, 1);
        // thirty cells, one kind of each half: 15 and 15 by both, all the same: (900 - 450) by (900 - 450)
        kappaIs("sssssssssssssssccccccccccccccc", "sssssssssssssssccccccccccccccc", 30, 30, 450, 1, 1);
        kappaIs("sssssssssssssssccccccccccccccc", "cccccccccccccccsssssssssssssss", 30, 0, 450, -1, 1);
    }

    /** "(0 / 0 if both are 0; the lower one is never below 0)" */
    private static void kappaOfNought() {
        kappaIs("", "", 0, 0, 0, 0, 0);
        kappaIs("s", "s", 1, 1, 1, 0, 0);
        kappaIs("s", "c", 1, 0, 0, 0, 1);
        kappaIs("pppp", "pppp", 4, 4, 16, 0, 0);
        kappaIs("pppp", "cccc", 4, 0, 0, 0, 1);
        kappaIs("pppp", "pccc", 4, 1, 4, 0, 1);
    }
}

/** The boundary cases that the document's terms ==== 5. and promises 10, 19 to 22 name: lines drawn, and plans. */
public final class LineAndPlanEdgesTest {
    private static final Checks CHECKS = new Checks("LineAndPlanEdgesTest");
    private static final String KEY = "s:any(sand);c:any(clay);p:any(peat);";

    public static void main(String[] args) {
        pricesMayBe();
        pricesAtFirst();
        bendFromS1On();
        bendInPlaceOfBorder();
        ofSeveralLinesTheFirst();
        ofSeveralLinesTheFirstThatChanges();
        linesOfEachLength();
        drawArguments();
        drawnOfTheLatestLine();
        planArguments();
        planWhereNoBoreCounts();
        planOfCellsApart();
        planDaysToTheLast();
        planOfWorth();
        ofSeveralPlansFewestDays();
        ofSeveralPlansTheFirst();
        plannedOfTheLatestPlan();
        CHECKS.end();
    }

    private static void due(String call, int got, int want) {
        CHECKS.due(call, got, want);
    }

    private static void due(String call, boolean got, boolean want) {
        CHECKS.due(call, got, want);
    }

    private static ClodDesk desk(int w, int h) {
        ClodDesk d = new ClodDesk();
        d.land(w, h);
        Checks.key(d, KEY);
        return d;
    }

    /**
     * Two cells along a row (or a column) of which the first is sand, the other one clay. LIKE of a cell and itself is
     * 12, of both 11: 193, 177 and 1 of 371 are 520, 477 and 2 parts, so a cell costs 480 as it was told, 523 as the other.
     */
    private static ClodDesk sandAndClay(boolean column) {
        ClodDesk d = desk(2, 2);
        Checks.boreOf(d, 's', 0, 0);
        Checks.boreOf(d, 'c', 0, column ? 2 : 1);
        return d;
    }

    private static void lineIs(ClodDesk d, int... kinds) {
        for (int k = 0; k < kinds.length; k++) {
            due("drawn(" + k + ")", d.drawn(k), kinds[k]);
        }
        CHECKS.ends("drawn", 0, kinds.length - 1, -1, d::drawn);
    }

    /** "(0 .. 9999 each)"; promise 10, "false: no such ones" */
    private static void pricesMayBe() {
        ClodDesk d = new ClodDesk();
        CHECKS.ends("BORDER", 0, 9999, 0, v -> d.price(0, v) ? 1 : 0);
        CHECKS.ends("BEND", 0, 9999, 0, v -> d.price(1, v) ? 1 : 0);
        CHECKS.ends("what of a price", 0, 1, 0, v -> d.price(v, 5) ? 1 : 0);
        ClodDesk e = sandAndClay(false);
        due("no price", e.price(0, 0), true);
        due("changing costs nothing", e.draw(2, false, 0), 960);
        due("the most", e.price(0, 9999), true);
        due("changing is too dear", e.draw(2, false, 0), 1003);
    }

    /** "BORDER (300 at first), or BEND (100 at first)": shown by parts that are far enough from each other */
    private static void pricesAtFirst() {
        ClodDesk d = desk(2, 2);
        // rocks part both cells: LIKE of them is 2 + 5
        d.ground(1, 1, 1);
        for (int i = 0; i < 4; i++) {
            Checks.boreOf(d, 's', 0, 0);
            Checks.boreOf(d, 'c', 0, 1);
        }
        // 1 + 4 * 192 and 1 + 4 * 112 of 1219: 630 and 368 parts
        due("weight", d.chance(8, 0, 0, 0), 769);
        due("not to change costs 262 more, less than 300", d.draw(8, false, 0), 370 + 632);
        due("261", d.price(0, 261), true);
        due("261 is less than that", d.draw(8, false, 0), 370 + 370 + 261);
        due("300", d.price(0, 300), true);
        d.ground(1, 0, 5);
        d.ground(2, 0, 5);
        due("all are as steep", d.look(0, 1) * 8 + d.look(1, 1), 9);
        due("BEND is 100", d.draw(8, false, 0), 370 + 370 + 100);
        d.bounds(0, 6, 7);
        due("BORDER is 300, dearer than 262", d.draw(8, false, 0), 370 + 632);
        ClodDesk e = desk(2, 2);
        e.ground(1, 1, 1);
        e.ground(0, 2, 0);
        e.ground(1, 2, 99);
        Checks.boreOf(e, 's', 0, 0);
        Checks.boreOf(e, 'c', 0, 1);
        // LIKE of a cell and itself is 14, of both 2 + 5: 225 and 113 of 339: 663 and 333 parts
        due("weight", e.chance(2, 0, 0, 0), 225);
        due("not to change costs 330 more, more than 300", e.draw(2, false, 0), 337 + 337 + 300);
    }

    /** "BEND instead if their HEIGHTS differ by S1 at least": up or down, along a row or a column */
    private static void bendFromS1On() {
        for (int i = 0; i < 4; i++) {
            boolean column = i % 2 == 1;
            int high = i < 2 ? 0 : column ? 2 : 1;
            ClodDesk d = sandAndClay(column);
            d.bounds(0, 7, 999);
            d.price(0, 9);
            d.price(1, 4);
            due("as high", d.draw(2, column, 0), 960 + 9);
            d.ground(high, 0, 6);
            due("S1 less 1", d.draw(2, column, 0), 960 + 9);
            d.ground(high, 0, 7);
            due("the bend is looked at, the steepness changes parts alike", d.look(0, 1), 1);
            due("S1", d.draw(2, column, 0), 960 + 4);
            due("S1 is more now", d.bounds(0, 8, 999), true);
            due("S1 less 1 again", d.draw(2, column, 0), 960 + 9);
        }
    }

    private static void bendInPlaceOfBorder() {
        ClodDesk d = sandAndClay(false);
        d.ground(1, 0, 5);
        d.price(0, 0);
        d.price(1, 40);
        due("a bend that is dearer", d.draw(2, false, 0), 960 + 40);
        lineIs(d, 0, 1);
        d.price(1, 9999);
        due("one that is far too dear", d.draw(2, false, 0), 1003);
        lineIs(d, 0, 0);
    }

    /** "The one of least COST; of several the first by KINDS from the first CELL on." */
    private static void ofSeveralLinesTheFirst() {
        ClodDesk d = sandAndClay(false);
        d.price(0, 42);
        due("changing is cheaper by 1", d.draw(2, false, 0), 1002);
        lineIs(d, 0, 1);
        d.price(0, 43);
        due("as dear", d.draw(2, false, 0), 1003);
        lineIs(d, 0, 0);
        d.price(0, 44);
        due("dearer", d.draw(2, false, 0), 1003);
        lineIs(d, 0, 0);
        ClodDesk e = desk(2, 2);
        Checks.boreOf(e, 'c', 0, 0);
        Checks.boreOf(e, 's', 0, 1);
        e.price(0, 42);
        due("changing is cheaper by 1", e.draw(2, false, 0), 1002);
        lineIs(e, 1, 0);
        e.price(0, 43);
        due("three of them are as dear", e.draw(2, false, 0), 1003);
        lineIs(e, 0, 0);
        ClodDesk f = desk(4, 2);
        Checks.boreOf(f, 'p', 0, 0);
        Checks.boreOf(f, 'c', 0, 0);
        f.price(0, 0);
        due("kinds 1 and 2 weigh the same all along", f.draw(2, false, 1) > 0, true);
        lineIs(f, 1, 1, 1, 1);
    }

    /** Of two lines as dear, the one that changes comes first if its first kind does. */
    private static void ofSeveralLinesTheFirstThatChanges() {
        ClodDesk d = desk(2, 2);
        d.ground(1, 1, 1);
        d.reads(0, 1, 4 * 32 + 12, 0, 0, 0);
        Checks.boreOf(d, 's', 0, 0);
        Checks.boreOf(d, 'c', 1, 1);
        // at 0: 193, 161, 1 of 355: 457 and 547; at 1: 113, 221, 1 of 335: 663 and 341
        due("all kinds", d.chance(2, 1, 0, 4), 335);
        d.price(0, 90);
        due("s and c, or c alone", d.draw(2, false, 0), 457 + 90 + 341);
        lineIs(d, 0, 1);
        d.price(0, 91);
        due("c alone", d.draw(2, false, 0), 547 + 341);
        lineIs(d, 1, 1);
    }

    /** "a KIND for each of its CELLS": 2 .. 8 of them */
    private static void linesOfEachLength() {
        for (int w = 2; w <= 8; w++) {
            for (int h = 2; h <= 8; h++) {
                ClodDesk d = desk(w, h);
                due("the last row", d.draw(0, false, h - 1), w * 667);
                lineIs(d, new int[w]);
                due("the last column", d.draw(0, true, w - 1), h * 667);
                lineIs(d, new int[h]);
            }
        }
        ClodDesk one = new ClodDesk();
        Checks.key(one, "x:always;");
        due("one kind costs nothing", one.draw(0, false, 0), 0);
        lineIs(one, 0, 0, 0, 0);
        ClodDesk eight = new ClodDesk();
        eight.land(8, 8);
        Checks.key(eight, "a:any(sand);b:any(silt);c:any(loam);d:any(peat);e:any(chalk);f:any(grey);g:any(black);h:any(clay);");
        due("eight kinds cost 875 each", eight.draw(0, true, 7), 8 * 875);
        lineIs(eight, new int[8]);
        Checks.boreOf(eight, 'c', 0, 63);
        eight.draw(1, false, 7);
        lineIs(eight, 7, 7, 7, 7, 7, 7, 7, 7);
    }

    /** Promise 19: "NONE: no such n, row, column, or no KINDS" */
    private static void drawArguments() {
        ClodDesk none = new ClodDesk();
        due("no kinds", none.draw(0, false, 0), -1);
        due("no kinds", none.draw(0, true, 0), -1);
        due("nothing drawn", none.drawn(0), -1);
        ClodDesk d = desk(3, 5);
        Checks.boreOf(d, 's', 0, 0);
        CHECKS.ends("row", 0, 4, -1, v -> d.draw(1, false, v));
        CHECKS.ends("column", 0, 2, -1, v -> d.draw(1, true, v));
        CHECKS.ends("n of a row", 0, 1, -1, v -> d.draw(v, false, 0));
        CHECKS.ends("n of a column", 0, 1, -1, v -> d.draw(v, true, 0));
        Checks.key(d, "");
        due("no kinds any more", d.draw(1, false, 0), -1);
    }

    /** Promise 20: "by the latest draw() that told a COST; NONE if there is none such" */
    private static void drawnOfTheLatestLine() {
        ClodDesk d = desk(3, 5);
        CHECKS.due("none yet", d.drawn(0), -1);
        Checks.boreOf(d, 'c', 0, 0);
        d.draw(1, true, 0);
        lineIs(d, 1, 1, 1, 1, 1);
        d.draw(0, false, 0);
        lineIs(d, 0, 0, 0);
        d.draw(1, false, 4);
        lineIs(d, 1, 1, 1);
        due("no such row", d.draw(1, false, 5), -1);
        due("no such n", d.draw(2, true, 0), -1);
        lineIs(d, 1, 1, 1);
        d.strike(0);
        d.ground(0, 1, 3);
        d.price(0, 0);
        lineIs(d, 1, 1, 1);
        d.land(8, 8);
        lineIs(d, 1, 1, 1);
        Checks.key(d, "");
        due("no kinds", d.draw(0, false, 0), -1);
        lineIs(d, 1, 1, 1);
    }

    private static void planIs(ClodDesk d, int days, int... cells) {
        for (int k : new int[] {0, -1, 3, Integer.MIN_VALUE, Integer.MAX_VALUE}) {
            due("days, whatever k is", d.planned(1, k), days);
        }
        for (int k = 0; k < cells.length; k++) {
            due("planned cell " + k, d.planned(0, k), cells[k]);
        }
        CHECKS.ends("k of a planned cell", 0, cells.length - 1, -1, v -> d.planned(0, v));
    }

    /** Promise 21: "NONE: no such m, D, CELL, no KINDS"; "PLAN of m BORES (1 .. 3) in D DAYS (1 .. 60) from a CELL" */
    private static void planArguments() {
        due("no kinds", new ClodDesk().plan(1, 1, 0), -1);
        ClodDesk d = desk(4, 4);
        CHECKS.ends("m", 1, 3, -1, v -> d.plan(v, 60, 0));
        CHECKS.ends("D", 1, 60, -1, v -> d.plan(1, v, 0));
        CHECKS.ends("the cell", 0, 15, -1, v -> d.plan(1, 1, v));
        Checks.key(d, "");
        due("no kinds any more", d.plan(1, 1, 0), -1);
        ClodDesk one = new ClodDesk();
        Checks.key(one, "x:always;");
        due("no doubt at all is a plan", one.plan(1, 1, 0), 0);
    }

    /** "m CELLS at which no BORE that COUNTS is"; "or there is none" */
    private static void planWhereNoBoreCounts() {
        ClodDesk d = desk(2, 2);
        for (int cell = 0; cell < 4; cell++) {
            due("there is one", d.plan(1, 60, 0) >= 0, true);
            Checks.boreOf(d, 's', 0, cell);
        }
        planIs(d, 3, 3);
        due("a bore at each cell", d.plan(1, 60, 0), -1);
        planIs(d, 3, 3);
        d.strike(1);
        due("one is struck", d.plan(1, 60, 0), d.chance(5, 1, 0, 3));
        planIs(d, 2, 1);
        d.strike(4);
        due("the strike is struck", d.plan(1, 60, 0), -1);
        Checks.key(d, "c:any(clay);p:any(peat);");
        due("none has a kind", d.plan(1, 60, 3), 500);
        planIs(d, 1, 3);
        ClodDesk row = desk(3, 2);
        Checks.boreOf(row, 's', 0, 0);
        due("two of 3 by 2, one of them below the bore", row.plan(2, 60, 0) > 0, true);
        due("the one below", row.planned(0, 0), 3);
        Checks.boreOf(row, 's', 0, 3);
        due("no two of the other columns are apart", row.plan(2, 60, 0), -1);
    }

    /** "FAR of any two of them 2 at least" */
    private static void planOfCellsApart() {
        due("no two of 2 by 2", desk(2, 2).plan(2, 60, 0), -1);
        ClodDesk row = desk(3, 2);
        due("two of 3 by 2", row.plan(2, 60, 0), 2 * 667);
        planIs(row, 4, 0, 2);
        due("no three of 3 by 2", row.plan(3, 60, 0), -1);
        ClodDesk high = desk(2, 3);
        due("two of 2 by 3", high.plan(2, 60, 0), 2 * 667);
        planIs(high, 4, 0, 4);
        due("no three of 4 by 2", desk(4, 2).plan(3, 60, 0), -1);
        due("three of 5 by 2", desk(5, 2).plan(3, 60, 0), 3 * 667);
        ClodDesk square = desk(3, 3);
        due("three of 3 by 3", square.plan(3, 60, 0), 3 * 667);
        planIs(square, 7, 0, 2, 8);
        due("from the middle", square.plan(2, 60, 4), 2 * 667);
        planIs(square, 5, 1, 7);
        square.ground(4, 3, 99);
        due("nothing is apart from the middle", square.plan(2, 60, 4), 2 * 667);
        due("but by itself", square.plan(1, 60, 4), 99 * 667);
        ClodDesk d = desk(4, 4);
        d.ground(5, 3, 50);
        d.ground(10, 3, 50);
        d.ground(15, 3, 2);
        due("across a corner they are not apart", d.plan(2, 60, 0), 52 * 667);
        planIs(d, 3 + 5, 5, 15);
        d.ground(7, 3, 40);
        due("two apart in a row", d.plan(2, 60, 0), 90 * 667);
        planIs(d, 3 + 3, 5, 7);
    }

    /** "a DAY for each step (to a CELL beside, above, below) ..., and one for each BORE: D at most" */
    private static void planDaysToTheLast() {
        ClodDesk d = desk(8, 8);
        d.ground(63, 3, 99);
        due("fourteen steps and one", d.plan(1, 15, 0), 99 * 667);
        planIs(d, 15, 63);
        due("a day less", d.plan(1, 14, 0), 667);
        planIs(d, 1, 0);
        d.ground(7, 3, 98);
        due("both ends", d.plan(2, 16, 0), (99 + 98) * 667);
        planIs(d, 16, 7, 63);
        due("a day less", d.plan(2, 15, 0), (98 + 1) * 667);
        planIs(d, 1 + 8, 0, 7);
        due("one alone in one day", d.plan(1, 1, 63), 99 * 667);
        due("two in three days", d.plan(2, 3, 0), -1);
        due("two in four days", d.plan(2, 4, 0), 2 * 667);
        due("three in six days", d.plan(3, 6, 27), -1);
        due("three in seven days", d.plan(3, 7, 27), 3 * 667);
        ClodDesk full = desk(2, 2);
        Checks.boreOf(full, 's', 0, 0);
        due("one day, where a bore is", full.plan(1, 1, 0), -1);
        due("two days", full.plan(1, 2, 0) > 0, true);
    }

    /** "WORTH of a CELL 0 .. 99 (1 at first)"; "the greatest sum of DOUBT times WORTH" */
    private static void planOfWorth() {
        ClodDesk d = desk(4, 4);
        CHECKS.ends("WORTH", 0, 99, 0, v -> d.ground(0, 3, v) ? 1 : 0);
        due("WORTH 1 at first", d.look(1, 6), 1);
        due("the most", d.plan(1, 1, 0), 99 * 667);
        for (int cell = 0; cell < 16; cell++) {
            d.ground(cell, 3, 0);
        }
        due("nothing has worth", d.plan(3, 60, 0), 0);
        planIs(d, 7, 0, 2, 10);
        Checks.boreOf(d, 's', 0, 1);
        d.ground(1, 3, 99);
        due("worth where a bore is", d.plan(1, 60, 1), 0);
        planIs(d, 2, 0);
        d.ground(15, 3, 2);
        d.ground(2, 3, 3);
        int near = d.chance(1, 2, 0, 3) * 3;
        int far = d.chance(1, 15, 0, 3) * 2;
        due("DOUBT times WORTH", d.plan(1, 60, 0), Math.max(near, far));
    }

    /** "of several the fewest DAYS" */
    private static void ofSeveralPlansFewestDays() {
        ClodDesk d = desk(5, 5);
        for (int from = 0; from < 25; from++) {
            due("where one stands", d.plan(1, 60, from), 667);
            planIs(d, 1, from);
        }
        d.ground(0, 3, 2);
        d.ground(24, 3, 2);
        due("the nearer corner", d.plan(1, 60, 18), 2 * 667);
        planIs(d, 3, 24);
        due("the nearer corner first", d.plan(2, 60, 18), 4 * 667);
        planIs(d, 3 + 9, 24, 0);
        ClodDesk last = desk(4, 4);
        last.ground(0, 3, 99);
        due("what is worth most comes last", last.plan(2, 60, 15), 100 * 667);
        // two cells on the way, of all those the first
        planIs(last, 5 + 3, 2, 0);
        due("what is worth most comes last of three", last.plan(3, 60, 15), 101 * 667);
        due("and the days", last.planned(1, 0), 1 + 2 + 1 + 4 + 1);
        due("the last one", last.planned(0, 2), 0);
        due("more sum for more days", d.plan(1, 5, 4), 2 * 667);
        planIs(d, 5, 0);
        due("as there is no day for it", d.plan(1, 4, 4), 667);
        planIs(d, 1, 4);
    }

    /** "then the first by CELLS in order" */
    private static void ofSeveralPlansTheFirst() {
        ClodDesk d = desk(5, 5);
        for (int cell : new int[] {7, 11, 13, 17}) {
            d.ground(cell, 3, 2);
        }
        due("all four are a step away", d.plan(1, 60, 12), 2 * 667);
        planIs(d, 2, 7);
        due("opposite ones", d.plan(2, 60, 12), 4 * 667);
        planIs(d, 2 + 3, 7, 17);
        d.ground(7, 3, 1);
        due("the next one", d.plan(1, 60, 12), 2 * 667);
        planIs(d, 2, 11);
        due("an order of both", d.plan(2, 60, 12), 4 * 667);
        planIs(d, 2 + 3, 11, 13);
        ClodDesk e = desk(5, 5);
        due("three as they come", e.plan(3, 60, 12), 3 * 667);
        planIs(e, 1 + 3 + 3, 12, 2, 0);
    }

    /** Promise 22: "Of the latest plan() that told a sum"; "NONE: none such" */
    private static void plannedOfTheLatestPlan() {
        ClodDesk d = desk(4, 4);
        due("none yet", d.planned(0, 0), -1);
        due("none yet", d.planned(1, 0), -1);
        due("none there is", d.plan(2, 3, 0), -1);
        due("still none", d.planned(1, 0), -1);
        due("three", d.plan(3, 60, 0), 3 * 667);
        planIs(d, 7, 0, 2, 10);
        CHECKS.ends("what", 0, 1, -1, v -> d.planned(v, 0));
        int[][] wrong = {{0, 60, 0}, {4, 60, 0}, {1, 0, 0}, {1, 61, 0}, {1, 60, 16}, {3, 6, 0}};
        for (int[] w : wrong) {
            due("no plan", d.plan(w[0], w[1], w[2]), -1);
            planIs(d, 7, 0, 2, 10);
        }
        Checks.boreOf(d, 's', 0, 0);
        d.ground(15, 3, 99);
        planIs(d, 7, 0, 2, 10);
        d.land(2, 2);
        planIs(d, 7, 0, 2, 10);
        Checks.key(d, "");
        due("no kinds", d.plan(1, 60, 0), -1);
        planIs(d, 7, 0, 2, 10);
        Checks.key(d, KEY);
        due("a shorter one", d.plan(1, 60, 3), 667);
        planIs(d, 1, 3);
    }
}

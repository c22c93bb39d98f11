import java.util.ArrayList;
import java.util.List;
import java.util.function.ToIntFunction;

/**
 * A call that is refused changes nothing, and each other one nothing but what the document says: two desks are made
 * alike, one of them gets the call, and then both are asked for all that can be asked.
 */
public final class RefusedCallsTest {
    private static final Checks CHECKS = new Checks("RefusedCallsTest");
    private static final String KEY = "s:any(sand);c:any(clay) and deep>5;p:any(peat);";
    private static final String ON_THE_TAPE = "0-10 clay grey mottled stones 3;";
    private static final int PARTS = 7;

    /** What is asked of both desks; TAPE is asked last, as it changes most. */
    private static final int COUNTS = 0;
    private static final int GROUND = 1;
    private static final int CHANCES = 2;
    private static final int FAULT = 3;
    private static final int LINE_AND_PLAN = 4;
    private static final int PRICES = 5;
    private static final int TAPE = 6;

    public static void main(String[] args) {
        refusedOnAFullDesk();
        refusedOnANewDesk();
        refusedWithoutRoomForNotes();
        refusedWithoutRoomOnTheTape();
        faultsChangeTapeAndFaultAlone();
        questionsChangeNothing();
        drawAndPlanChangeTheirOwn();
        settersChangeTheirOwn();
        landKeepsTheRest();
        keyKeepsTheRest();
        CHECKS.end();
    }

    private static ClodDesk newDesk() {
        return new ClodDesk();
    }

    /** A desk on which nothing is as at first. */
    private static ClodDesk fullDesk() {
        ClodDesk d = new ClodDesk();
        d.land(5, 4);
        Checks.key(d, KEY);
        for (int cell = 0; cell < 20; cell++) {
            d.ground(cell, 0, cell * 7 % 30);
            d.ground(cell, 1, cell % 3);
            d.ground(cell, 2, cell * 11 % 100);
            d.ground(cell, 3, 2 + cell % 5);
            d.ground(cell, 4, cell % 6);
        }
        d.bounds(0, 7, 15);
        d.bounds(1, 20, 70);
        d.price(0, 30);
        d.price(1, 11);
        d.reads(0, 0, 14 * 32 + 2, 0, 0, 0);
        d.reads(1, 2, 32, 15 * 32, 0, 0);
        for (int kind = 0; kind < 3; kind++) {
            d.value(kind, 10 + 7 * kind);
        }
        String texes = "scpscpk";
        for (int i = 0; i < texes.length(); i++) {
            Checks.boreOf(d, texes.charAt(i), i % 3, i * 3 % 20);
            Checks.boreOf(d, texes.charAt((i + 1) % 3), (i + 1) % 3, i * 3 % 20);
        }
        d.strike(0);
        d.strike(3);
        d.strike(14);
        d.draw(17, false, 1);
        d.plan(2, 20, 7);
        Checks.bore(d, "0-9 sand red stones 100", 0, 0);
        Checks.feed(d, Checks.bytes(ON_THE_TAPE));
        return d;
    }

    private static ClodDesk deskOfSixty() {
        ClodDesk d = new ClodDesk();
        Checks.key(d, KEY);
        for (int i = 0; i < 50; i++) {
            Checks.boreOf(d, "scp".charAt(i % 3), i % 2, i % 16);
        }
        for (int i = 0; i < 10; i++) {
            d.strike(4 * i);
        }
        Checks.feed(d, Checks.bytes(ON_THE_TAPE));
        return d;
    }

    private static ClodDesk deskWithFullTape() {
        ClodDesk d = new ClodDesk();
        Checks.key(d, KEY);
        Checks.feed(d, Checks.bytes(ON_THE_TAPE + " ".repeat(800 - ON_THE_TAPE.length())));
        return d;
    }

    private interface Maker {
        ClodDesk make();
    }

    private static List<Integer> asked(ClodDesk d, int part) {
        List<Integer> answers = new ArrayList<>();
        switch (part) {
            case COUNTS: askCounts(d, answers); break;
            case GROUND: askGround(d, answers); break;
            case CHANCES: askChances(d, answers); break;
            case FAULT: askFault(d, answers); break;
            case LINE_AND_PLAN: askLineAndPlan(d, answers); break;
            case PRICES: askPrices(d, answers); break;
            default: askTape(d, answers); break;
        }
        return answers;
    }

    private static void askCounts(ClodDesk d, List<Integer> answers) {
        for (int what = 0; what < 7; what++) {
            answers.add(d.count(what));
        }
        for (int note = 0; note < d.count(2) + 1; note++) {
            for (int what = 0; what < 5; what++) {
                answers.add(d.told(note, what));
            }
        }
        for (int note = 0; note < 20; note++) {
            for (int what = 1; what < 6; what += 2) {
                answers.add(d.layer(note, 0, what));
            }
        }
    }

    private static void askGround(ClodDesk d, List<Integer> answers) {
        int cells = d.count(0) * d.count(1);
        for (int cell = 0; cell < cells && cell < 30; cell++) {
            for (int what = 0; what < 8; what++) {
                answers.add(d.look(cell, what));
            }
        }
        for (int cell = 1; cell < 20; cell++) {
            answers.add(d.like(0, cell));
        }
    }

    private static void askChances(ClodDesk d, List<Integer> answers) {
        int notes = d.count(2);
        for (int cell = 0; cell < 16; cell += 3) {
            for (int kind = 0; kind < 4; kind++) {
                answers.add(d.chance(notes, cell, kind, 0));
                answers.add(d.chance(notes / 2, cell, kind, 1));
            }
        }
        for (int n = 0; n <= notes; n++) {
            answers.add(d.leftOut(n, n % 3));
        }
        for (int oldClass = 0; oldClass < 6; oldClass++) {
            for (int what = 0; what < 9; what += 2) {
                answers.add(d.turned(oldClass, what));
            }
        }
        for (int what = 0; what < 5; what++) {
            answers.add(d.maps(what % 3, what % 2));
            answers.add(d.worth(what % 3, 100 * what));
            answers.add(d.hands(0, 1, what));
            answers.add(d.hands(2, 1, what));
        }
    }

    private static void askFault(ClodDesk d, List<Integer> answers) {
        answers.add(d.fault(0));
        answers.add(d.fault(1));
    }

    private static void askLineAndPlan(ClodDesk d, List<Integer> answers) {
        for (int k = -1; k < 9; k++) {
            answers.add(d.drawn(k));
            answers.add(d.planned(0, k));
            answers.add(d.planned(1, k));
        }
    }

    private static void askPrices(ClodDesk d, List<Integer> answers) {
        int notes = d.count(2);
        for (int at = 0; at < 5; at++) {
            for (int line = 0; line < 2; line++) {
                answers.add(d.draw(notes, line == 1, at));
                for (int k = 0; k < 5; k++) {
                    answers.add(d.drawn(k));
                }
            }
            answers.add(d.plan(1 + at % 3, 5 + 3 * at, at));
            answers.add(d.planned(1, 0));
        }
    }

    /** How many bytes there are, and what they say. */
    private static void askTape(ClodDesk d, List<Integer> answers) {
        answers.add(d.feed(0x20202020, 0x20202020, 0x20202020, 0x20202020, 0x20202020));
        int notes = d.count(2);
        answers.add(d.bore(40, 2, 3) - notes);
        answers.add(d.key(40));
        answers.add(d.fault(0));
        answers.add(d.fault(1));
        answers.add(d.layer(d.count(2) - 1, 0, 5));
    }

    /** The call answers as is due, and what is asked for behind it is as without it. */
    private static void changesNothing(String call, Maker maker, ToIntFunction<ClodDesk> ask, int want) {
        changesOnly(call, maker, ask, want, new boolean[PARTS]);
    }

    private static void changesOnly(String call, Maker maker, ToIntFunction<ClodDesk> ask, int want, boolean[] free) {
        for (int part = 0; part < PARTS; part++) {
            ClodDesk called = maker.make();
            CHECKS.due(call, ask.applyAsInt(called), want);
            if (!free[part]) {
                List<Integer> got = asked(called, part);
                List<Integer> due = asked(maker.make(), part);
                CHECKS.due(call + " changes nothing of part " + part + ": " + got + " in place of " + due, got.equals(due), true);
            }
        }
    }

    private static boolean[] free(int... parts) {
        boolean[] free = new boolean[PARTS];
        for (int part : parts) {
            free[part] = true;
        }
        return free;
    }

    private static int of(boolean answer) {
        return answer ? 1 : 0;
    }

    private static void refusedOnAFullDesk() {
        Maker m = RefusedCallsTest::fullDesk;
        int[][] bores = {{-1, 0, 0}, {41, 0, 0}, {13, -1, 0}, {13, 3, 0}, {13, 0, -1}, {13, 0, 20}};
        for (int[] b : bores) {
            changesNothing("bore", m, d -> d.bore(b[0], b[1], b[2]), -2);
        }
        changesNothing("key", m, d -> d.key(-1), -2);
        changesNothing("key", m, d -> d.key(41), -2);
        changesNothing("strike", m, d -> d.strike(-1), -1);
        changesNothing("strike", m, d -> d.strike(17), -1);
        int[][] lands = {{1, 4}, {9, 4}, {4, 1}, {4, 9}, {1, 9}};
        for (int[] l : lands) {
            changesNothing("land", m, d -> of(d.land(l[0], l[1])), 0);
        }
        int[][] grounds = {{-1, 0, 5}, {20, 0, 5}, {3, -1, 1}, {3, 5, 1}, {3, 0, -1}, {3, 0, 1000}, {3, 1, -1}, {3, 1, 4},
            {3, 2, -2}, {3, 2, 100}, {3, 3, -1}, {3, 3, 100}, {3, 4, -2}, {3, 4, 6}};
        for (int[] g : grounds) {
            changesNothing("ground", m, d -> of(d.ground(g[0], g[1], g[2])), 0);
        }
        int[][] bounds = {{-1, 1, 2}, {2, 1, 2}, {0, 0, 2}, {0, 2, 2}, {0, 3, 2}, {0, 2, 1000}, {1, 0, 2}, {1, 2, 2}, {1, 3, 2}, {1, 2, 100}};
        for (int[] b : bounds) {
            changesNothing("bounds", m, d -> of(d.bounds(b[0], b[1], b[2])), 0);
        }
        int[][] prices = {{-1, 5}, {2, 5}, {0, -1}, {0, 10000}, {1, -1}, {1, 10000}};
        for (int[] p : prices) {
            changesNothing("price", m, d -> of(d.price(p[0], p[1])), 0);
        }
        int[][] values = {{-1, 5}, {3, 5}, {0, -1}, {2, 10000}};
        for (int[] v : values) {
            changesNothing("value", m, d -> of(d.value(v[0], v[1])), 0);
        }
        refusedReads(m);
        refusedLinesAndPlans(m);
    }

    private static void refusedReads(Maker m) {
        int[][] reads = {{-1, 0, 512, 0, 0, 0}, {3, 0, 512, 0, 0, 0}, {0, -1, 512, 0, 0, 0}, {0, 3, 512, 0, 0, 0}, {0, 1, 511, 0, 0, 0},
            {0, 1, 513, 0, 0, 0}, {0, 1, 480, 0, 0, 0}, {0, 1, 544, 0, 0, 0}, {0, 1, 480, 1, 0, 0}, {0, 1, 480, 0, 32, 0},
            {0, 1, 480, 0, 0, 1}, {0, 1, 512, -1, 0, 0}, {0, 1, 17, 0, 0, 0}};
        for (int[] r : reads) {
            changesNothing("reads", m, d -> of(d.reads(r[0], r[1], r[2], r[3], r[4], r[5])), 0);
        }
    }

    /** A draw() that tells no COST and a plan() that tells no sum leave the latest ones. */
    private static void refusedLinesAndPlans(Maker m) {
        int[][] draws = {{-1, 0, 0}, {18, 0, 0}, {17, 0, -1}, {17, 0, 4}, {17, 1, -1}, {17, 1, 5}};
        for (int[] a : draws) {
            changesNothing("draw", m, d -> d.draw(a[0], a[1] == 1, a[2]), -1);
        }
        int[][] plans = {{0, 9, 0}, {4, 9, 0}, {1, 0, 0}, {1, 61, 0}, {1, 9, -1}, {1, 9, 20}, {3, 6, 0}};
        for (int[] p : plans) {
            changesNothing("plan", m, d -> d.plan(p[0], p[1], p[2]), -1);
        }
    }

    private static void refusedOnANewDesk() {
        Maker m = RefusedCallsTest::newDesk;
        changesNothing("key", m, d -> d.key(1), -2);
        changesNothing("bore", m, d -> d.bore(1, 0, 0), -2);
        changesNothing("strike", m, d -> d.strike(0), -1);
        changesNothing("reads", m, d -> of(d.reads(0, 0, 512, 0, 0, 0)), 0);
        changesNothing("value", m, d -> of(d.value(0, 1)), 0);
        changesNothing("draw", m, d -> d.draw(0, false, 0), -1);
        changesNothing("plan", m, d -> d.plan(1, 1, 0), -1);
    }

    private static void refusedWithoutRoomForNotes() {
        Maker m = RefusedCallsTest::deskOfSixty;
        changesNothing("bore", m, d -> d.bore(13, 0, 0), -2);
        changesNothing("a bore with a fault", m, d -> d.bore(3, 0, 0), -2);
        changesNothing("strike", m, d -> d.strike(1), -1);
        changesNothing("strike of the last", m, d -> d.strike(59), -1);
    }

    private static void refusedWithoutRoomOnTheTape() {
        Maker m = RefusedCallsTest::deskWithFullTape;
        changesNothing("feed", m, d -> d.feed(0, 0, 0, 0, 0), -1);
        changesNothing("feed", m, d -> d.feed(-1, -1, -1, -1, -1), -1);
        ClodDesk called = deskWithFullTape();
        called.feed(-1, -1, -1, -1, -1);
        CHECKS.due("all of the tape is a bore", called.bore(800, 0, 0), 0);
    }

    private static void faultsChangeTapeAndFaultAlone() {
        Maker m = RefusedCallsTest::fullDesk;
        boolean[] free = free(FAULT, TAPE);
        changesOnly("a key with a fault", m, d -> d.key(32), -1, free);
        changesOnly("a bore with a fault", m, d -> d.bore(21, 0, 0), -1, free);
        changesOnly("an empty bore", m, d -> d.bore(0, 0, 0), -1, free);
        String[] keys = {"x", "a:always;b:deep<1000;", "a:any(sand);any:", "a:always;".repeat(17), "a:" + "not ".repeat(97)};
        for (String text : keys) {
            changesOnly("key " + text, m, d -> {
                d.key(1);
                return Checks.key(d, text);
            }, -1, free);
        }
    }

    private static void questionsChangeNothing() {
        Maker m = RefusedCallsTest::fullDesk;
        changesNothing("fault", m, d -> d.fault(0), 2);
        changesNothing("layer", m, d -> d.layer(1, 0, 1), 9);
        changesNothing("told", m, d -> d.told(1, 2), 1);
        changesNothing("look", m, d -> d.look(1, 3), 7);
        changesNothing("look that throws", m, d -> Checks.lookThrows(d, 20, 0), 1);
        changesNothing("look that throws", m, d -> Checks.lookThrows(d, 0, 8), 2);
        changesNothing("like", m, d -> d.like(20, 0), -1);
        changesNothing("chance", m, d -> d.chance(0, 0, 0, 4), 3);
        changesNothing("leftOut", m, d -> d.leftOut(0, 2), 0);
        changesNothing("drawn", m, d -> d.drawn(9), -1);
        changesNothing("planned", m, d -> d.planned(0, 2), -1);
        changesNothing("turned", m, d -> d.turned(6, 0), -2);
        changesNothing("maps", m, d -> d.maps(1, 4), -1);
        changesNothing("worth", m, d -> d.worth(2, 1001), -1);
        changesNothing("hands", m, d -> d.hands(0, 0, 0), -1000000);
        changesNothing("count", m, d -> d.count(2), 17);
        for (int part : new int[] {COUNTS, GROUND, CHANCES, FAULT, LINE_AND_PLAN}) {
            ClodDesk d = fullDesk();
            CHECKS.due("asked twice, part " + part, asked(d, part).equals(asked(d, part)), true);
        }
    }

    private static void drawAndPlanChangeTheirOwn() {
        Maker m = RefusedCallsTest::fullDesk;
        changesOnly("draw", m, d -> d.draw(17, true, 0) < 0 ? 1 : 0, 0, free(LINE_AND_PLAN));
        changesOnly("plan", m, d -> d.plan(3, 60, 0) < 0 ? 1 : 0, 0, free(LINE_AND_PLAN));
        ClodDesk d = fullDesk();
        int days = d.planned(1, 0);
        int cell = d.planned(0, 1);
        d.draw(17, true, 0);
        CHECKS.due("draw leaves the plan", d.planned(1, 0) * 100 + d.planned(0, 1), days * 100 + cell);
        int first = d.drawn(0);
        int last = d.drawn(3);
        d.plan(3, 60, 0);
        CHECKS.due("plan leaves the line", d.drawn(0) * 100 + d.drawn(3), first * 100 + last);
        CHECKS.due("a column of four", d.drawn(4), -1);
    }

    /** The part that a call may change is looked at in the tests of its promise; here all others. */
    private static void settersChangeTheirOwn() {
        Maker m = RefusedCallsTest::fullDesk;
        changesOnly("feed", m, d -> d.feed(1, 2, 3, 4, 5), 60, free(TAPE));
        changesOnly("price", m, d -> of(d.price(0, 1)), 1, free(PRICES));
        changesOnly("price", m, d -> of(d.price(1, 9999)), 1, free(PRICES));
        changesOnly("value", m, d -> of(d.value(1, 9999)), 1, free(CHANCES));
        changesOnly("reads", m, d -> of(d.reads(2, 1, 512, 0, 0, 0)), 1, free(CHANCES, PRICES));
        changesOnly("WORTH", m, d -> of(d.ground(4, 3, 99)), 1, free(GROUND, PRICES));
        changesOnly("OLD CLASS", m, d -> of(d.ground(4, 4, 0)), 1, free(GROUND, CHANCES));
        changesOnly("HEIGHT", m, d -> of(d.ground(4, 0, 999)), 1, free(GROUND, CHANCES, PRICES));
        changesOnly("ROCK", m, d -> of(d.ground(4, 1, 3)), 1, free(GROUND, CHANCES, PRICES));
        changesOnly("FELT", m, d -> of(d.ground(4, 2, -1)), 1, free(GROUND, CHANCES, PRICES));
        changesOnly("S1, S2", m, d -> of(d.bounds(0, 1, 2)), 1, free(GROUND, CHANCES, PRICES));
        changesOnly("F1, F2", m, d -> of(d.bounds(1, 1, 2)), 1, free(GROUND, CHANCES, PRICES));
        changesOnly("strike", m, d -> d.strike(1), 17, free(COUNTS, CHANCES, PRICES));
        changesOnly("bore", m, d -> d.bore(31, 1, 19), 17, free(COUNTS, CHANCES, FAULT, PRICES, TAPE));
        ClodDesk d = fullDesk();
        d.ground(4, 3, 99);
        d.ground(4, 0, 999);
        for (int cell = 0; cell < 20; cell++) {
            CHECKS.due("HEIGHT of " + cell, d.look(cell, 3), cell == 4 ? 999 : cell * 7 % 30);
            CHECKS.due("ROCK of " + cell, d.look(cell, 4), cell % 3);
            CHECKS.due("FELT of " + cell, d.look(cell, 5), cell * 11 % 100);
            CHECKS.due("WORTH of " + cell, d.look(cell, 6), cell == 4 ? 99 : 2 + cell % 5);
            CHECKS.due("OLD CLASS of " + cell, d.look(cell, 7), cell % 6);
        }
    }

    /** "(bounds, THE KEY, READS, VALUES, prices stay)"; the tape, the latest fault, line and plan are not of a land */
    private static void landKeepsTheRest() {
        Maker m = RefusedCallsTest::fullDesk;
        changesOnly("land", m, d -> of(d.land(5, 4)), 1, free(COUNTS, GROUND, CHANCES, PRICES));
        ClodDesk d = fullDesk();
        CHECKS.due("land", d.land(2, 2), true);
        int[] counts = {2, 2, 0, 3, 3, 8, 0};
        for (int what = 0; what < counts.length; what++) {
            CHECKS.due("count(" + what + ")", d.count(what), counts[what]);
        }
        CHECKS.due("VALUES stay: 10, 17 and 24", d.worth(1, 0), 4 * 17);
        d.ground(0, 0, 7);
        CHECKS.due("S1 is 7", d.look(0, 1), 1);
        d.ground(0, 0, 6);
        CHECKS.due("S1 is 7", d.look(0, 1), 0);
        d.ground(0, 0, 15);
        CHECKS.due("S2 is 15", d.look(0, 1), 2);
        d.ground(0, 2, 20);
        CHECKS.due("F1 is 20", d.look(0, 2), 1);
        d.ground(0, 2, 70);
        CHECKS.due("F2 is 70", d.look(0, 2), 2);
        CHECKS.due("the tape stays", d.bore(31, 0, 0), 0);
        CHECKS.due("a clay", d.told(0, 3), 1);
        Checks.boreOf(d, 'c', 0, 0);
        CHECKS.due("READS stay: hand 0 tells s as c twice of 16", d.chance(2, 0, 0, 0), 1 + 2 * 14 * 2);
        pricesStay();
    }

    private static void pricesStay() {
        ClodDesk d = fullDesk();
        d.land(2, 2);
        d.ground(1, 1, 1);
        CHECKS.due("a fault, for an empty tape", d.bore(0, 0, 0), -1);
        Checks.boreOf(d, 's', 2, 0);
        Checks.boreOf(d, 'p', 2, 1);
        // LIKE of a cell and itself is 12, of both 2 + 5: 193 and 113 of 307: 628 and 368 parts
        CHECKS.due("BORDER is 30", d.draw(2, false, 0), 372 + 372 + 30);
        d.ground(1, 0, 7);
        d.ground(2, 0, 7);
        CHECKS.due("BEND is 11", d.draw(2, false, 0), 372 + 372 + 11);
    }

    /** KINDS are new ones; what is not of kinds stays. */
    private static void keyKeepsTheRest() {
        Maker m = RefusedCallsTest::fullDesk;
        changesOnly("key", m, d -> {
            d.bore(0, 0, 0);
            return Checks.key(d, KEY);
        }, 3, free(CHANCES, FAULT, PRICES, TAPE));
        ClodDesk d = fullDesk();
        d.key(0);
        int[] counts = {5, 4, 17, 0, 0, 0, 0};
        for (int what = 0; what < counts.length; what++) {
            CHECKS.due("count(" + what + ")", d.count(what), counts[what]);
        }
        CHECKS.due("bounds stay", d.bounds(0, 7, 15) && d.look(1, 1) == fullDesk().look(1, 1), true);
    }
}

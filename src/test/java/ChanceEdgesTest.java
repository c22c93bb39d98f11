/** The boundary cases that the document's terms ==== 4. and promises 11, 17, 18 name: READS, WEIGHTS, LEFT OUT. */
public final class ChanceEdgesTest {
    private static final Checks CHECKS = new Checks("ChanceEdgesTest");
    private static final String KEY = "s:any(sand);c:any(clay);p:any(peat);";
    private static final String EIGHT = "g:any(sand and red);b:any(silt);c:any(loam);d:any(clay);e:any(peat);f:any(chalk);"
        + "a:any(grey);h:always;";

    public static void main(String[] args) {
        readsAtFirst();
        eachNumberOfARow();
        rowsAreSixteenTogether();
        numbersOfKindsThatThereAreNot();
        handsAndKindsOfARow();
        aRowIsOfOneHandAndKind();
        weightsWithoutBores();
        weightsOfBoresThatCount();
        weightOfALikenessOfNought();
        weightsOfSixtyBores();
        partsAreCut();
        bestOfSeveralIsTheLeast();
        chanceArguments();
        leftOutWithoutBores();
        leftOutOfOneAlone();
        leftOutOfTwoAtOneCell();
        leftOutIsRight();
        CHECKS.end();
    }

    private static void due(String call, int got, int want) {
        CHECKS.due(call, got, want);
    }

    private static void due(String call, boolean got, boolean want) {
        CHECKS.due(call, got, want);
    }

    private static ClodDesk desk(String key) {
        ClodDesk d = new ClodDesk();
        Checks.key(d, key);
        return d;
    }

    /** "(16 for j = i, 0 else, at first)" */
    private static void readsAtFirst() {
        char[] texes = {'s', 'c', 'p'};
        for (int hand = 0; hand < 3; hand++) {
            for (int told = 0; told < 3; told++) {
                ClodDesk d = desk(KEY);
                Checks.boreOf(d, texes[told], hand, 0);
                for (int k = 0; k < 3; k++) {
                    due("weight of " + k + " told as " + told, d.chance(1, 0, k, 0), k == told ? 1 + 12 * 16 : 1);
                }
            }
        }
    }

    /** "eight numbers, each 0 .. 16, two in each argument (the first times 32, and the second)" */
    private static void eachNumberOfARow() {
        for (int j = 0; j < 8; j++) {
            int[] pairs = new int[4];
            pairs[j / 2] = j % 2 == 0 ? 16 * 32 : 16;
            ClodDesk d = desk(EIGHT);
            due("16 at " + j, d.reads(1, 4, pairs[0], pairs[1], pairs[2], pairs[3]), true);
            for (int told = 0; told < 8; told++) {
                ClodDesk one = desk(EIGHT);
                one.reads(1, 4, pairs[0], pairs[1], pairs[2], pairs[3]);
                boreOfKind(one, told, 1);
                due("kind 4 told as " + told, one.chance(1, 0, 4, 0), told == j ? 1 + 12 * 16 : 1);
            }
            pairs[j / 2] = j % 2 == 0 ? 17 * 32 : 17;
            due("17 at " + j, d.reads(1, 4, pairs[0], pairs[1], pairs[2], pairs[3]), false);
            pairs[j / 2] = j % 2 == 0 ? -32 : -1;
            pairs[(j / 2 + 1) % 4] = 16 * 32 + (j % 2 == 0 ? 1 : 0);
            due("below 0 at " + j, d.reads(1, 4, pairs[0], pairs[1], pairs[2], pairs[3]), false);
        }
        ClodDesk d = desk(EIGHT);
        int[] far = {Integer.MIN_VALUE, Integer.MAX_VALUE, 1 << 16, 1 << 30, 512 - (1 << 30), -512, 32 * 32};
        for (int pair : far) {
            due("far off in the first", d.reads(0, 0, pair, 0, 0, 0), false);
            due("far off in the second", d.reads(0, 0, 512, pair, 0, 0), false);
            due("far off in the third", d.reads(0, 0, 512, 0, pair, 0), false);
            due("far off in the fourth", d.reads(0, 0, 512, 0, 0, pair), false);
        }
        // numbers below 0 that would make up for too much elsewhere, however the two are told apart
        for (int pair : new int[] {-1, -2, -16, -31, -32, -33, -64, -512}) {
            for (int more = 15; more <= 34; more++) {
                int others = more / 2 * 32 + (more + 1) / 2;
                due("below 0 with " + more, d.reads(0, 0, others, pair, 0, 0), false);
                due("below 0 with " + more, d.reads(0, 0, pair, 0, 0, others), false);
            }
        }
        due("31 for the second is not a number of the row", d.reads(0, 0, 31, 0, 0, 0), false);
        due("15 times 32 and 32 is 16 times 32", d.reads(0, 0, 15 * 32 + 32, 0, 0, 0), true);
    }

    private static void boreOfKind(ClodDesk d, int kind, int hand) {
        if (kind < 6) {
            Checks.boreOf(d, "silcpk".charAt(kind), hand, 0);
        } else {
            Checks.bore(d, kind == 6 ? "0-9 sand grey" : "0-9 sand white", hand, 0);
        }
        due("kind", d.told(0, 3), kind);
    }

    /** "each row 16 together"; "false: they are not 16 together" */
    private static void rowsAreSixteenTogether() {
        ClodDesk d = desk(EIGHT);
        due("0 together", d.reads(0, 0, 0, 0, 0, 0), false);
        due("15 together", d.reads(0, 0, 15, 0, 0, 0), false);
        due("16 together", d.reads(0, 0, 16, 0, 0, 0), true);
        due("17 together", d.reads(0, 0, 16, 1, 0, 0), false);
        due("two of each", d.reads(0, 0, 66, 66, 66, 66), true);
        due("two of each but the last", d.reads(0, 0, 66, 66, 66, 65), false);
        due("two of each and one", d.reads(0, 0, 66, 66, 66, 67), false);
        due("128 together", d.reads(0, 0, 528, 528, 528, 528), false);
        due("32 together", d.reads(0, 0, 512, 512, 0, 0), false);
    }

    /** "or not 0 for a KIND that there is not" */
    private static void numbersOfKindsThatThereAreNot() {
        String[] keys = {"a:always;", "a:always;b:always;", KEY, KEY + "d:always;", KEY + "d:always;e:always;",
            KEY + "d:always;e:always;f:always;", KEY + "d:always;e:always;f:always;g:always;", EIGHT};
        for (int kinds = 1; kinds <= 8; kinds++) {
            ClodDesk d = desk(keys[kinds - 1]);
            due("kinds", d.count(3), kinds);
            for (int j = 0; j < 8; j++) {
                int[] pairs = new int[4];
                pairs[0] = 15 * 32;
                pairs[j / 2] += j % 2 == 0 ? 32 : 1;
                boolean want = j < kinds;
                due("1 at " + j + " of " + kinds, d.reads(0, 0, pairs[0], pairs[1], pairs[2], pairs[3]), want);
            }
        }
    }

    /** "false: no such HAND, KIND" */
    private static void handsAndKindsOfARow() {
        ClodDesk none = new ClodDesk();
        due("without a key there is no kind", none.reads(0, 0, 512, 0, 0, 0), false);
        ClodDesk d = desk(KEY);
        CHECKS.ends("hand", 0, 2, 0, v -> d.reads(v, 0, 512, 0, 0, 0) ? 1 : 0);
        CHECKS.ends("kind", 0, 2, 0, v -> d.reads(0, v, 512, 0, 0, 0) ? 1 : 0);
        ClodDesk eight = desk(EIGHT);
        CHECKS.ends("kind of eight", 0, 7, 0, v -> eight.reads(2, v, 0, 0, 0, 16) ? 1 : 0);
        Checks.key(eight, "");
        due("behind an empty key", eight.reads(0, 0, 512, 0, 0, 0), false);
    }

    private static void aRowIsOfOneHandAndKind() {
        ClodDesk d = desk(KEY);
        due("reads", d.reads(1, 1, 16 * 32, 0, 0, 0), true);
        for (int hand = 0; hand < 3; hand++) {
            ClodDesk one = desk(KEY);
            one.reads(1, 1, 16 * 32, 0, 0, 0);
            Checks.boreOf(one, 's', hand, 0);
            due("hand " + hand + ": kind 0", one.chance(1, 0, 0, 0), 193);
            due("hand " + hand + ": kind 1 told as kind 0", one.chance(1, 0, 1, 0), hand == 1 ? 193 : 1);
            due("hand " + hand + ": kind 2", one.chance(1, 0, 2, 0), 1);
            due("a second row", one.reads(1, 1, 16, 0, 0, 0), true);
            due("is there in place of the first", one.chance(1, 0, 1, 0), 1);
        }
    }

    /** "WEIGHT of a KIND k at a CELL: 1, and ..." */
    private static void weightsWithoutBores() {
        for (int cell = 0; cell < 16; cell++) {
            ClodDesk d = desk(KEY);
            for (int k = 0; k < 3; k++) {
                due("weight", d.chance(0, cell, k, 0), 1);
                due("parts", d.chance(0, cell, k, 1), 333);
            }
            due("all", d.chance(0, cell, 0, 4), 3);
            due("best", d.chance(0, cell, 0, 2), 0);
            due("doubt", d.chance(0, cell, 0, 3), 667);
        }
        ClodDesk one = desk("x:always;");
        due("one kind alone", one.chance(0, 0, 0, 1), 1000);
        due("no doubt", one.chance(0, 0, 0, 3), 0);
        ClodDesk eight = desk(EIGHT);
        due("one of eight", eight.chance(0, 0, 7, 1), 125);
        due("doubt of eight", eight.chance(0, 0, 7, 3), 875);
        due("all of eight", eight.chance(0, 0, 7, 4), 8);
    }

    /** "those BORES COUNT that have a KIND by THE KEY of now" */
    private static void weightsOfBoresThatCount() {
        ClodDesk d = new ClodDesk();
        Checks.boreOf(d, 's', 0, 0);
        Checks.boreOf(d, 'k', 0, 0);
        due("without a key", d.count(6), 0);
        Checks.key(d, KEY);
        due("chalk has no kind", d.count(6), 1);
        due("weight", d.chance(2, 0, 0, 4), 3 + 12 * 16);
        Checks.key(d, "k:any(chalk);s:any(sand);");
        due("both have one now", d.count(6), 2);
        due("weight of the first", d.chance(2, 0, 0, 0), 193);
        due("weight of the second", d.chance(2, 0, 1, 0), 193);
        d.strike(0);
        due("a struck one", d.count(6), 1);
        due("weight of the second", d.chance(3, 0, 1, 0), 1);
        due("as known ahead of the strike", d.chance(2, 0, 1, 0), 193);
        Checks.key(d, "");
        due("behind an empty key", d.count(6), 0);
    }

    private static void weightOfALikenessOfNought() {
        ClodDesk d = desk(KEY);
        d.land(8, 2);
        d.ground(7, 1, 1);
        d.ground(7, 0, 20);
        Checks.boreOf(d, 'c', 0, 0);
        due("like", d.like(0, 7), 0);
        due("adds nothing", d.chance(1, 7, 1, 0), 1);
        due("best is the least then", d.chance(1, 7, 1, 2), 0);
        due("nearer by one", d.chance(1, 6, 1, 0), 1 + 4 * 16);
    }

    /** The most that can be: 60 bores at a cell that was felt. */
    private static void weightsOfSixtyBores() {
        ClodDesk d = desk("x:any(sand);y:any(clay);");
        d.ground(5, 2, 40);
        for (int i = 0; i < 60; i++) {
            Checks.boreOf(d, i < 59 ? 's' : 'c', 0, 5);
        }
        due("59 of them", d.chance(60, 5, 0, 0), 1 + 59 * 14 * 16);
        due("one of them", d.chance(60, 5, 1, 0), 1 + 14 * 16);
        due("all", d.chance(60, 5, 1, 4), 2 + 60 * 14 * 16);
        due("parts", d.chance(60, 5, 0, 1), 1000 * 13217 / 13442);
        due("parts of the other", d.chance(60, 5, 1, 1), 16);
        due("doubt", d.chance(60, 5, 1, 3), 1000 - 983);
        due("known by 59", d.chance(59, 5, 1, 0), 1);
        due("count", d.count(6), 60);
    }

    /** "PARTS: 1000 times it, cut"; "DOUBT: 1000 less PARTS of BEST" */
    private static void partsAreCut() {
        ClodDesk d = desk("x:always;y:always;z:always;u:always;v:always;w:always;");
        due("1000 by 6", d.chance(0, 0, 0, 1), 166);
        due("doubt", d.chance(0, 0, 0, 3), 834);
        ClodDesk e = desk("s:any(sand);c:any(clay);");
        Checks.boreOf(e, 's', 0, 0);
        // 193 and 1 of 194: 994.8 and 5.2
        due("994.8", e.chance(1, 0, 0, 1), 994);
        due("5.2", e.chance(1, 0, 1, 1), 5);
        due("doubt of 994.8", e.chance(1, 0, 1, 3), 6);
    }

    /** "BEST: the KIND with the greatest WEIGHT, of several the least" */
    private static void bestOfSeveralIsTheLeast() {
        ClodDesk d = desk(KEY);
        Checks.boreOf(d, 'p', 0, 0);
        due("the only one", d.chance(1, 0, 0, 2), 2);
        Checks.boreOf(d, 'c', 0, 0);
        due("of both the least", d.chance(2, 0, 0, 2), 1);
        Checks.boreOf(d, 's', 0, 0);
        due("of all the least", d.chance(3, 0, 0, 2), 0);
        Checks.boreOf(d, 'p', 0, 15);
        due("one is greater by a little", d.chance(4, 0, 0, 2), 2);
    }

    /** "NONE: no such n, CELL, KIND, what, or there are no KINDS"; "(KIND isn't looked at)" */
    private static void chanceArguments() {
        ClodDesk none = new ClodDesk();
        for (int what = 0; what < 5; what++) {
            due("no kinds", none.chance(0, 0, 0, what), -1);
        }
        ClodDesk d = desk(KEY);
        Checks.boreOf(d, 's', 0, 0);
        Checks.boreOf(d, 'c', 0, 0);
        for (int what = 0; what < 5; what++) {
            int w = what;
            CHECKS.ends("n", 0, 2, -1, v -> d.chance(v, 0, 0, w));
            CHECKS.ends("cell", 0, 15, -1, v -> d.chance(2, v, 0, w));
        }
        CHECKS.ends("kind of what 0", 0, 2, -1, v -> d.chance(2, 0, v, 0));
        CHECKS.ends("kind of what 1", 0, 2, -1, v -> d.chance(2, 0, v, 1));
        CHECKS.ends("what", 0, 4, -1, v -> d.chance(2, 0, 0, v));
        for (int kind : new int[] {-1, 3, 8, Integer.MIN_VALUE, Integer.MAX_VALUE}) {
            due("best", d.chance(2, 0, kind, 2), 0);
            due("doubt", d.chance(2, 0, kind, 3), 1000 - 193000 / 387);
            due("all", d.chance(2, 0, kind, 4), 387);
            due("no what", d.chance(2, 0, kind, 5), -1);
        }
    }

    private static void leftOutIs(ClodDesk d, int n, int counts, int right, int said) {
        due("counts", d.leftOut(n, 0), counts);
        due("right", d.leftOut(n, 1), right);
        due("said", d.leftOut(n, 2), said);
    }

    /** "NONE: no such n, what": no KINDS is no such case, then nothing counts */
    private static void leftOutWithoutBores() {
        ClodDesk d = new ClodDesk();
        leftOutIs(d, 0, 0, 0, 0);
        CHECKS.ends("n", 0, 0, -1, v -> d.leftOut(v, 0));
        CHECKS.ends("what", 0, 2, -1, v -> d.leftOut(0, v));
        Checks.boreOf(d, 's', 0, 0);
        leftOutIs(d, 1, 0, 0, 0);
        Checks.key(d, KEY);
        leftOutIs(d, 0, 0, 0, 0);
        leftOutIs(d, 1, 1, 1, 333);
        Checks.boreOf(d, 'k', 0, 0);
        leftOutIs(d, 2, 1, 1, 333);
        d.strike(0);
        leftOutIs(d, 3, 0, 0, 0);
        leftOutIs(d, 2, 1, 1, 333);
        CHECKS.ends("n of three", 0, 3, -1, v -> d.leftOut(v, 2));
    }

    /** "WEIGHTS at its CELL without it": then all weigh 1, and BEST is the least */
    private static void leftOutOfOneAlone() {
        ClodDesk d = desk(KEY);
        Checks.boreOf(d, 'c', 0, 0);
        leftOutIs(d, 1, 1, 0, 333);
    }

    /** One bore is left out, not all that are at its cell. */
    private static void leftOutOfTwoAtOneCell() {
        ClodDesk d = desk(KEY);
        Checks.boreOf(d, 'c', 0, 0);
        Checks.boreOf(d, 'c', 0, 0);
        leftOutIs(d, 2, 2, 2, 2 * (193000 / 195));
        Checks.boreOf(d, 'p', 1, 0);
        // without a clay: 1, 193, 193: clay, right; without the peat: 1, 385, 1: clay, wrong
        leftOutIs(d, 3, 3, 2, 2 * (193000 / 387) + 385000 / 387);
    }

    /** "RIGHT if BEST is its KIND": as its hand told it, by how other hands read */
    private static void leftOutIsRight() {
        ClodDesk d = desk(KEY);
        d.reads(1, 1, 16 * 32, 0, 0, 0);
        Checks.boreOf(d, 's', 1, 0);
        Checks.boreOf(d, 's', 0, 0);
        // without the first: 193, 1, 1; without the second: 193, 193, 1, as hand 1 tells kind 1 as kind 0, too
        leftOutIs(d, 2, 2, 2, 193000 / 195 + 193000 / 387);
        d.reads(1, 0, 16, 0, 0, 0);
        // without the second: 1, 193, 1: best is kind 1, wrong
        leftOutIs(d, 2, 2, 1, 193000 / 195 + 193000 / 195);
    }
}

/** The boundary cases that promises 1 to 9, 13 to 16 and 27 name themselves: what a call takes, and what it does not. */
public final class CallEdgesTest {
    private static final Checks CHECKS = new Checks("CallEdgesTest");
    private static final int BLANKS = 0x20202020;
    private static final String LAYER = "0-10 sand red";

    public static void main(String[] args) {
        promise1NothingThereYet();
        promise2FullTape();
        promise2PlaceOfEachByte();
        promise3BytesOfTheTape();
        promise3FaultKeepsTheKey();
        promise3NewKindsReadAsAtFirst();
        promise4BytesOfTheTape();
        promise4HandsAndCells();
        promise4NoRoom();
        promise5LatestFault();
        promise6Notes();
        promise7NewLand();
        promise7NotesOfBothLands();
        promise8Ground();
        promise9Bounds();
        promise13Layers();
        promise14Told();
        promise15Look();
        promise16Like();
        promise27Counts();
        CHECKS.end();
    }

    private static void due(String call, int got, int want) {
        CHECKS.due(call, got, want);
    }

    private static void due(String call, boolean got, boolean want) {
        CHECKS.due(call, got, want);
    }

    private static int feedBlanks(ClodDesk d) {
        return d.feed(BLANKS, BLANKS, BLANKS, BLANKS, BLANKS);
    }

    /** "4 by 4 CELLS, no NOTES, no KEY, an empty TAPE" */
    private static void promise1NothingThereYet() {
        ClodDesk d = new ClodDesk();
        int[] counts = {4, 4, 0, 0, 0, 0, 0};
        for (int what = 0; what < counts.length; what++) {
            due("count(" + what + ")", d.count(what), counts[what]);
        }
        due("no note", d.told(0, 0), -2);
        due("no note", d.layer(0, 0, 0), -1);
        due("no note", d.strike(0), -1);
        due("no kind", d.value(0, 1), false);
        due("no kind", d.reads(0, 0, 512, 0, 0, 0), false);
        due("no fault", d.fault(0), 0);
        due("no place", d.fault(1), -1);
        due("nothing drawn", d.drawn(0), -1);
        due("nothing planned", d.planned(0, 0), -1);
        due("nothing planned", d.planned(1, 0), -1);
        due("no byte for a key", d.key(1), -2);
        due("no byte for a bore", d.bore(1, 0, 0), -2);
        due("the first twenty", feedBlanks(d), 20);
    }

    /** "how many it has; NONE, and none come, if it would have more than 800" */
    private static void promise2FullTape() {
        ClodDesk d = new ClodDesk();
        for (int i = 1; i <= 39; i++) {
            due("feed", feedBlanks(d), 20 * i);
        }
        due("the last twenty", d.feed(BLANKS, BLANKS, 0x20783a61, 0x6c776179, 0x733b2020), 800);
        for (int i = 0; i < 3; i++) {
            due("it would have more", d.feed(-1, -1, -1, -1, -1), -1);
        }
        due("none came", d.key(801), -2);
        due("all 800 are as they were", d.key(800), 1);
        due("it is empty then", feedBlanks(d), 20);
        ClodDesk e = new ClodDesk();
        for (int i = 1; i <= 40; i++) {
            feedBlanks(e);
        }
        due("full", feedBlanks(e), -1);
        due("a bore empties it, too", e.bore(800, 0, 0), -1);
        due("at the length", e.fault(1), 800);
        due("room again", feedBlanks(e), 20);
    }

    /** "Twenty bytes come behind the TAPE, four of each number, the highest first" */
    private static void promise2PlaceOfEachByte() {
        for (int b : new int[] {128, 187, 255, 0, 9, 59}) {
            for (int i = 0; i < 20; i++) {
                int[] numbers = {BLANKS, BLANKS, BLANKS, BLANKS, BLANKS};
                int shift = 24 - i % 4 * 8;
                numbers[i / 4] = numbers[i / 4] & ~(255 << shift) | b << shift;
                ClodDesk d = new ClodDesk();
                feedBlanks(d);
                d.feed(numbers[0], numbers[1], numbers[2], numbers[3], numbers[4]);
                due("byte " + b + " at " + i, d.key(40), -1);
                due("fault of byte " + b, d.fault(0), 1);
                due("place of byte " + b, d.fault(1), 20 + i);
                due("the first ones alone", feedBlanks(d), 20);
            }
        }
    }

    /** "The TAPE's first n bytes (it is empty then)"; "-2, and the TAPE stays: there are not so many, n is below 0" */
    private static void promise3BytesOfTheTape() {
        ClodDesk none = new ClodDesk();
        CHECKS.ends("n of an empty tape", 0, 0, -2, none::key);
        for (int n : new int[] {-1, 41, Integer.MIN_VALUE, Integer.MAX_VALUE}) {
            ClodDesk d = new ClodDesk();
            Checks.feed(d, Checks.bytes("x:always;y:any(sand and mottled);"));
            due("n of " + n, d.key(n), -2);
            due("the tape stays", d.key(33), 2);
        }
        ClodDesk d = new ClodDesk();
        Checks.feed(d, Checks.bytes("x:always;y:always;"));
        due("all that there are", d.key(20), 2);
        due("it is empty then", d.key(1), -2);
        Checks.feed(d, Checks.bytes("x:always;y:always;"));
        due("the first of both lines", d.key(9), 1);
        due("it is empty then, too", d.key(1), -2);
        Checks.feed(d, Checks.bytes("x:always;y:always;"));
        due("none of them: an empty key", d.key(0), 0);
        due("it is empty then, too", d.key(1), -2);
        due("no lines", d.count(4), 0);
        due("no kinds", d.count(3), 0);
        due("no knots", d.count(5), 0);
        Checks.feed(d, Checks.bytes("x:always;y:always;"));
        due("with a fault", d.key(5), -1);
        due("it is empty then, too", d.key(1), -2);
    }

    /** "NONE with a FAULT": THE KEY, READS and VALUES stay */
    private static void promise3FaultKeepsTheKey() {
        String[] faults = {"q", "a:deep<1000;", "a:always;b:always;c:always;d:", "a:any(clay);any:always;", "a:" + "(".repeat(9)};
        for (String text : faults) {
            ClodDesk d = new ClodDesk();
            Checks.key(d, "s:any(sand);c:any(clay) or deep>100;");
            d.reads(0, 1, 16 * 32, 0, 0, 0);
            d.value(1, 7);
            Checks.boreOf(d, 's', 0, 0);
            due("a fault", Checks.key(d, text), -1);
            due("kinds", d.count(3), 2);
            due("lines", d.count(4), 2);
            due("knots", d.count(5), 6);
            due("the kind of a bore", d.told(0, 3), 0);
            due("reads", d.chance(1, 0, 1, 0), 193);
            due("values", d.worth(1, 0), 16 * 3);
            due("a bore told later", Checks.boreOf(d, 'c', 0, 0), 1);
            due("its kind", d.told(1, 3), 1);
        }
    }

    /** "(KINDS are new ones: READS, VALUES as at first)": even if they are called as before */
    private static void promise3NewKindsReadAsAtFirst() {
        String key = "s:any(sand);c:any(clay);";
        ClodDesk d = new ClodDesk();
        Checks.key(d, key);
        for (int hand = 0; hand < 3; hand++) {
            d.reads(hand, 0, 16, 0, 0, 0);
            d.reads(hand, 1, 16 * 32, 0, 0, 0);
            Checks.boreOf(d, 's', hand, 0);
        }
        d.value(0, 5);
        d.value(1, 6);
        due("as they were told", d.chance(3, 0, 1, 0), 1 + 3 * 192);
        due("the same key", Checks.key(d, key), 2);
        due("reads as at first", d.chance(3, 0, 0, 0), 1 + 3 * 192);
        due("reads as at first", d.chance(3, 0, 1, 0), 1);
        due("values as at first", d.worth(0, 0) + d.worth(1, 0), 0);
        due("notes stay", d.count(2), 3);
        due("and count", d.count(6), 3);
    }

    /** "They are a BORE (the TAPE is empty then)"; "-2, and the TAPE stays: as above" */
    private static void promise4BytesOfTheTape() {
        for (int n : new int[] {-1, 21, Integer.MIN_VALUE, Integer.MAX_VALUE}) {
            ClodDesk d = new ClodDesk();
            Checks.feed(d, Checks.bytes(LAYER));
            due("n of " + n, d.bore(n, 0, 0), -2);
            due("the tape stays", d.bore(20, 0, 0), 0);
            due("it is empty then", d.bore(1, 0, 0), -2);
        }
        ClodDesk d = new ClodDesk();
        Checks.feed(d, Checks.bytes(LAYER + ";10-20 clay grey"));
        due("the first layer alone", d.bore(13, 0, 0), 0);
        due("layers", d.told(0, 2), 1);
        due("it is empty then", d.bore(1, 0, 0), -2);
        Checks.feed(d, Checks.bytes(LAYER));
        due("none of them is a fault", d.bore(0, 0, 0), -1);
        due("it is empty then, too", d.bore(1, 0, 0), -2);
        due("fault", d.fault(0), 1);
        due("place", d.fault(1), 0);
        due("no note came", d.count(2), 1);
    }

    /** "or no such HAND, CELL" */
    private static void promise4HandsAndCells() {
        int[][] sides = {{2, 2}, {4, 4}, {3, 8}, {8, 8}};
        for (int[] side : sides) {
            ClodDesk d = new ClodDesk();
            d.land(side[0], side[1]);
            int last = side[0] * side[1] - 1;
            CHECKS.ends("cell", 0, last, -2, v -> Checks.bore(d, LAYER, 0, v));
            due("the cell of the first", d.told(0, 1), 0);
            due("the cell of the second", d.told(1, 1), last);
            CHECKS.ends("hand", 0, 2, -2, v -> Checks.bore(d, LAYER, v, 0));
            due("the hand of the third", d.told(2, 0), 0);
            due("the hand of the fourth", d.told(3, 0), 2);
            due("no others", d.count(2), 4);
        }
    }

    /** "or there are 60": ahead of any fault */
    private static void promise4NoRoom() {
        ClodDesk d = new ClodDesk();
        for (int i = 0; i < 59; i++) {
            Checks.bore(d, LAYER, 0, 0);
        }
        due("a fault at 59", Checks.bore(d, "7", 0, 0), -1);
        due("the sixtieth", Checks.bore(d, LAYER, 0, 0), 59);
        due("a text with a fault at 60", Checks.bore(d, "7", 0, 0), -2);
        due("it is not read", d.fault(0), 0);
        due("the tape stays", feedBlanks(d), 40);
        due("a key for all sixty", d.key(0), 0);
        Checks.key(d, "x:any(sand);");
        for (int note = 0; note < 60; note++) {
            due("its kind", d.told(note, 3), 0);
        }
        due("all of them count", d.count(6), 60);
    }

    private static void faultIs(ClodDesk d, int fault, int place) {
        due("fault", d.fault(0), fault);
        due("place", d.fault(1), place);
        for (int what : new int[] {-1, 2, Integer.MIN_VALUE, Integer.MAX_VALUE}) {
            due("another what", d.fault(what), -1);
        }
    }

    /** "Of the latest key() or bore() that was not -2, what 0: its FAULT (0), 1: its place (NONE without)" */
    private static void promise5LatestFault() {
        ClodDesk d = new ClodDesk();
        faultIs(d, 0, -1);
        due("refused ahead of all", d.key(1), -2);
        faultIs(d, 0, -1);
        Checks.bore(d, "0-301", 0, 0);
        faultIs(d, 2, 2);
        due("refused for n", d.key(1), -2);
        due("refused for n", d.bore(-1, 0, 0), -2);
        due("refused for its hand", d.bore(0, 3, 0), -2);
        due("refused for its cell", d.bore(0, 0, 16), -2);
        faultIs(d, 2, 2);
        Checks.key(d, "x:sand;");
        faultIs(d, 1, 2);
        Checks.bore(d, "0-5 sand red;6", 0, 0);
        faultIs(d, 3, 13);
        Checks.key(d, "x:always;");
        faultIs(d, 0, -1);
        Checks.bore(d, "", 0, 0);
        faultIs(d, 1, 0);
        Checks.bore(d, LAYER, 0, 0);
        faultIs(d, 0, -1);
        Checks.key(d, "5");
        faultIs(d, 1, 0);
        d.strike(0);
        d.land(3, 3);
        feedBlanks(d);
        faultIs(d, 1, 0);
    }

    /** "A NOTE is STRUCK: this NOTE's number; NONE: no such one, or there are 60" */
    private static void promise6Notes() {
        ClodDesk d = new ClodDesk();
        due("none yet", d.strike(0), -1);
        due("none yet", d.strike(-1), -1);
        Checks.bore(d, LAYER, 0, 0);
        due("the one that would be its own number", d.strike(1), -1);
        for (int v : new int[] {-1, 2, 60, Integer.MIN_VALUE, Integer.MAX_VALUE}) {
            due("strike of " + v, d.strike(v), -1);
        }
        due("no note came", d.count(2), 1);
        due("a bore", d.strike(0), 1);
        due("a strike", d.strike(1), 2);
        due("one that is struck", d.strike(1), 3);
        due("the last one", d.strike(3), 4);
        for (int i = 5; i < 60; i++) {
            due("strike", d.strike(0), i);
        }
        due("there are 60", d.strike(0), -1);
        due("there are 60", d.strike(59), -1);
        due("there are 60", d.count(2), 60);
    }

    /** "HEIGHTS, ROCKS 0, nothing FELT, WORTH 1, no OLD CLASSES, no NOTES": on each cell, also on one as large */
    private static void promise7NewLand() {
        int[][] sides = {{4, 4}, {8, 8}, {2, 2}, {8, 2}, {2, 8}};
        int[] atFirst = {0, 0, -1, 0, 0, -1, 1, -1};
        for (int[] side : sides) {
            ClodDesk d = new ClodDesk();
            for (int cell = 0; cell < 16; cell++) {
                for (int what = 0; what < 5; what++) {
                    d.ground(cell, what, 3);
                }
            }
            Checks.bore(d, LAYER, 0, 0);
            due("land", d.land(side[0], side[1]), true);
            for (int cell = 0; cell < side[0] * side[1]; cell++) {
                for (int what = 0; what < 8; what++) {
                    due("look(" + cell + ", " + what + ")", d.look(cell, what), atFirst[what]);
                }
            }
            due("no such cell", Checks.lookThrows(d, side[0] * side[1], 0), 1);
            due("no notes", d.count(2), 0);
            due("no note", d.told(0, 0), -2);
            due("notes are numbered from 0 on", Checks.bore(d, LAYER, 0, 0), 0);
        }
    }

    /** "no NOTES": what a number was on the land ahead does not matter on the new one */
    private static void promise7NotesOfBothLands() {
        ClodDesk d = new ClodDesk();
        Checks.key(d, "s:any(sand);c:any(clay);");
        Checks.bore(d, LAYER, 0, 0);
        d.strike(0);
        d.strike(1);
        Checks.bore(d, "0-1 clay red;1-2 clay red", 0, 0);
        d.land(2, 2);
        due("nothing counts", d.count(6), 0);
        for (int i = 0; i < 3; i++) {
            due("bore", Checks.bore(d, LAYER, 1, i), i);
        }
        due("all of them count", d.count(6), 3);
        due("a bore where a strike was", d.told(1, 0), 1);
        due("its layer", d.layer(1, 0, 1), 10);
        due("a strike where a bore was", d.strike(0), 3);
        due("it is a strike", d.told(3, 2), -2);
        due("it has no layers", d.layer(3, 0, 0), -1);
        due("it strikes", d.count(6), 2);
    }

    /** "Of a CELL, what 0: HEIGHT, 1: ROCK, 2: FELT (NONE), 3: WORTH, 4: OLD CLASS (NONE) becomes v" */
    private static void promise8Ground() {
        int[] least = {0, 0, -1, 0, -1};
        int[] most = {999, 3, 99, 99, 5};
        int[][] sides = {{2, 2}, {4, 4}, {8, 8}};
        for (int[] side : sides) {
            ClodDesk d = new ClodDesk();
            d.land(side[0], side[1]);
            int last = side[0] * side[1] - 1;
            for (int what = 0; what < 5; what++) {
                int w = what;
                CHECKS.ends("v of what " + what, least[what], most[what], 0, v -> d.ground(last, w, v) ? 1 : 0);
                due("the last one that was taken", d.look(last, what + 3), most[what]);
                CHECKS.ends("cell", 0, last, 0, v -> d.ground(v, w, 1) ? 1 : 0);
            }
            CHECKS.ends("what", 0, 4, 0, v -> d.ground(0, v, 1) ? 1 : 0);
        }
        ClodDesk d = new ClodDesk();
        for (int what = 0; what < 5; what++) {
            for (int v = least[what]; v <= most[what]; v++) {
                due("ground", d.ground(what, what, v), true);
                due("becomes v", d.look(what, what + 3), v);
            }
        }
    }

    /** "false: no such ones, the first isn't below the second" */
    private static void promise9Bounds() {
        ClodDesk d = new ClodDesk();
        CHECKS.ends("what", 0, 1, 0, v -> d.bounds(v, 1, 2) ? 1 : 0);
        int[] most = {999, 99};
        for (int what = 0; what < 2; what++) {
            due("the widest", d.bounds(what, 1, most[what]), true);
            due("the lowest", d.bounds(what, 1, 2), true);
            due("the highest", d.bounds(what, most[what] - 1, most[what]), true);
            due("below the lowest", d.bounds(what, 0, 1), false);
            due("above the highest", d.bounds(what, most[what], most[what] + 1), false);
            due("far apart", d.bounds(what, Integer.MIN_VALUE, Integer.MAX_VALUE), false);
            due("the same ends", d.bounds(what, 1, 1), false);
            due("the same ends", d.bounds(what, most[what], most[what]), false);
        }
    }

    /** "NONE: no BORE, LAYER, what" */
    private static void promise13Layers() {
        ClodDesk d = new ClodDesk();
        Checks.bore(d, "0-1 sand black;1-2 clay red mottled stones 99;2-300 chalk white", 0, 0);
        d.strike(0);
        Checks.bore(d, LAYER, 0, 0);
        int[][] fields = {{0, 1, 0, 0, 0, 0}, {1, 2, 3, 2, 1, 99}, {2, 300, 5, 4, 0, 0}};
        for (int k = 0; k < 3; k++) {
            for (int what = 0; what < 6; what++) {
                due("layer(0, " + k + ", " + what + ")", d.layer(0, k, what), fields[k][what]);
            }
        }
        CHECKS.ends("what", 0, 5, -1, v -> d.layer(0, 1, v));
        CHECKS.ends("k of three", 0, 2, -1, v -> d.layer(0, v, 1));
        CHECKS.ends("k of one", 0, 0, -1, v -> d.layer(2, v, 1));
        CHECKS.ends("note", 0, 2, -1, v -> d.layer(v, 0, 1));
        for (int what = 0; what < 6; what++) {
            due("a strike has no layers", d.layer(1, 0, what), -1);
        }
    }

    /** "-2: no such NOTE, it is a STRIKE, no such what" */
    private static void promise14Told() {
        ClodDesk d = new ClodDesk();
        Checks.bore(d, LAYER, 2, 15);
        d.strike(0);
        Checks.bore(d, LAYER, 0, 0);
        CHECKS.ends("note", 0, 2, -2, v -> d.told(v, 0));
        CHECKS.ends("what", 0, 4, -2, v -> d.told(0, v));
        for (int what = -1; what < 6; what++) {
            due("a strike", d.told(1, what), -2);
        }
        int[] without = {2, 15, 1, -1, -1};
        for (int what = 0; what < 5; what++) {
            due("without a key", d.told(0, what), without[what]);
        }
        Checks.key(d, "x:any(clay);y:any(peat);x:any(sand);");
        due("its kind", d.told(0, 3), 0);
        due("its line", d.told(0, 4), 2);
        d.land(4, 4);
        due("no notes", d.told(0, 0), -2);
    }

    /** "IndexOutOfBoundsException: no such CELL. NoSuchElementException: no such what." */
    private static void promise15Look() {
        int[][] sides = {{2, 2}, {4, 4}, {8, 8}, {8, 3}};
        for (int[] side : sides) {
            ClodDesk d = new ClodDesk();
            d.land(side[0], side[1]);
            int last = side[0] * side[1] - 1;
            for (int what = 0; what < 8; what++) {
                due("the first cell", Checks.lookThrows(d, 0, what), 0);
                due("the last cell", Checks.lookThrows(d, last, what), 0);
                for (int cell : new int[] {-1, last + 1, Integer.MIN_VALUE, Integer.MAX_VALUE}) {
                    due("no such cell", Checks.lookThrows(d, cell, what), 1);
                }
            }
            for (int what : new int[] {-1, 8, Integer.MIN_VALUE, Integer.MAX_VALUE}) {
                due("no such what", Checks.lookThrows(d, 0, what), 2);
                due("no such what", Checks.lookThrows(d, last, what), 2);
                due("neither such a cell: that is told first, as it stands first", Checks.lookThrows(d, last + 1, what), 1);
            }
        }
    }

    /** "LIKE; NONE: no such CELLS" */
    private static void promise16Like() {
        int[][] sides = {{2, 2}, {4, 4}, {8, 8}};
        for (int[] side : sides) {
            ClodDesk d = new ClodDesk();
            d.land(side[0], side[1]);
            int last = side[0] * side[1] - 1;
            CHECKS.ends("the first cell", 0, last, -1, v -> d.like(v, 0));
            CHECKS.ends("the second cell", 0, last, -1, v -> d.like(last, v));
            due("neither", d.like(-1, last + 1), -1);
        }
    }

    /** "NONE for another what" */
    private static void promise27Counts() {
        ClodDesk d = new ClodDesk();
        d.land(8, 2);
        Checks.key(d, "a:any(sand) or deep>99;b:any(clay);a:any(chalk);");
        Checks.bore(d, LAYER, 0, 0);
        Checks.bore(d, "0-10 peat red", 0, 0);
        Checks.bore(d, "0-10 clay red", 0, 0);
        d.strike(2);
        int[] want = {8, 2, 4, 2, 3, 8, 1};
        for (int what = 0; what < want.length; what++) {
            due("count(" + what + ")", d.count(what), want[what]);
        }
        CHECKS.ends("what", 0, 6, -1, d::count);
        due("the strike is struck", d.strike(3), 4);
        due("both count", d.count(6), 2);
        due("five notes", d.count(2), 5);
        Checks.key(d, "");
        int[] empty = {8, 2, 5, 0, 0, 0, 0};
        for (int what = 0; what < empty.length; what++) {
            due("with an empty key count(" + what + ")", d.count(what), empty[what]);
        }
    }
}

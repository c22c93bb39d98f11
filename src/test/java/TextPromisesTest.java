/** Promises 1 to 6, 13 and 14: the tape, keys, bores, their faults, and the book of notes. */
public final class TextPromisesTest {
    private static final Checks CHECKS = new Checks("TextPromisesTest");
    private static final String LAYER = "0-10 sand red";

    public static void main(String[] args) {
        promise1NewObject();
        promise2Feed();
        promise3Key();
        promise3KeyLimits();
        promise3KeyMeaning();
        promise3KeyFaults();
        promise4Bore();
        promise4BoreFaults();
        promise5Fault();
        promise6Strike();
        promise13Layer();
        promise14Told();
        CHECKS.end();
    }

    private static void due(String call, int got, int want) {
        CHECKS.due(call, got, want);
    }

    private static void promise1NewObject() {
        ClodDesk d = new ClodDesk();
        due("NONE", ClodDesk.NONE, -1);
        int[] counts = {4, 4, 0, 0, 0, 0, 0, -1};
        for (int what = 0; what < counts.length; what++) {
            due("new count(" + what + ")", d.count(what), counts[what]);
        }
        due("the tape is empty", d.key(1), -2);
        due("nothing drawn", d.drawn(0), -1);
        due("nothing planned", d.planned(0, 0), -1);
        due("no days planned", d.planned(1, 0), -1);
    }

    private static void promise2Feed() {
        ClodDesk d = new ClodDesk();
        for (int i = 1; i <= 40; i++) {
            due("feed", d.feed(0x20202020, 0x20202020, 0x20202020, 0x20202020, 0x20202020), 20 * i);
        }
        due("feed beyond 800", d.feed(0, 0, 0, 0, 0), -1);
        due("800 blanks are a key of no lines", d.key(800), 0);
        // x:always; with the highest byte of each number first, and a byte above 127 behind what is read
        due("feed", d.feed(0x783a616c, 0x77617973, 0x3bffffff, -1, 0), 20);
        due("key", d.key(9), 1);
        due("feed", d.feed(0x783a616c, 0x77617973, 0xbbffffff, -1, 0), 20);
        due("a byte of 187 is no ;", d.key(9), -1);
        due("its place", d.fault(1), 8);
    }

    private static void promise3Key() {
        ClodDesk d = new ClodDesk();
        Checks.feed(d, Checks.bytes("x: always;"));
        due("too long", d.key(21), -2);
        due("below 0", d.key(-1), -2);
        due("the tape stays", d.key(10), 1);
        due("the tape is empty", d.key(1), -2);
        due("kinds", d.count(3), 1);
        due("two lines of one kind, one of another", Checks.key(d, "b:always;a:deep>3;b:any(sand);"), 3);
        due("kinds", d.count(3), 2);
        due("lines", d.count(4), 3);
        due("knots", d.count(5), 4);
        CHECKS.due("value", d.value(1, 7), true);
        CHECKS.due("reads", d.reads(0, 0, 16, 0, 0, 0), true);
        Checks.bore(d, "0-3 sand red", 0, 0);
        due("told as kind 0, weighed as hand 0 reads", d.chance(1, 0, 0, 0), 1);
        due("a fault", Checks.key(d, "q"), -1);
        due("the key stays", d.count(4), 3);
        due("reads stay", d.chance(1, 0, 0, 0), 1);
        due("values stay", d.worth(1, 0), 16 * 3);
        due("only what is read counts", Checks.key(d, "b:always;a:deep>3;b:any(sand);"), 3);
        due("reads as at first", d.chance(1, 0, 0, 0), 1 + 12 * 16);
        due("values as at first", d.worth(1, 0), 0);
    }

    private static void promise3KeyLimits() {
        ClodDesk d = new ClodDesk();
        due("16 lines", Checks.key(d, "x:always;".repeat(16)), 16);
        keyFault("x:always;".repeat(17), 2, 144);
        keyFault("x:always;".repeat(16) + "any:always;", 1, 144);
        keyFault("x:always;".repeat(16) + ":", 1, 144);
        due("96 knots", Checks.key(d, "x:" + "not ".repeat(95) + "always;"), 1);
        due("knots", d.count(5), 96);
        keyFault("x:" + "not ".repeat(96) + "always;", 2, 386);
        keyFault("x:" + "not ".repeat(96) + "sand;", 1, 386);
        keyFault("x:" + "not ".repeat(95) + "always and", 2, 389);
        keyFault("x:" + "not ".repeat(94) + "any(sand) or", 2, 388);
        keyFault("x:" + "not ".repeat(94) + "any(not sand);", 2, 386);
        keyFault("a:always;b:always;c:always;d:always;e:always;f:always;g:always;h:always;a:always;i:", 2, 81);
        due("a word of 8 letters", Checks.key(d, "abcdefgh:always;"), 1);
        due("first and last letters", Checks.key(d, "az:always;za:always;zzzzzzzz:always;zzzzzzzy:always;aa:always;a:always;"), 6);
        due("all unlike", d.count(3), 6);
        keyFault("abcdefghi:always;", 1, 0);
        due("N of 999", Checks.key(d, "x:deep<999;"), 1);
        keyFault("x:deep<1000;", 2, 7);
        keyFault("x:deep<4294967297;", 2, 7);
        due("noughts ahead", Checks.key(d, "x:at 00000000000000999(sand);"), 1);
        keyFault("x:(((((((any(sand))))))) and (((((((any(sand)))))));", 2, 39);
        due("eight open twice",
            Checks.key(d, "x:(((((((any(sand)))))))) and (((((((any(sand))))))));"), 1);
        keyFault("x:((((((((any(sand)))))))));", 2, 13);
    }

    private static void keyFault(String text, int fault, int place) {
        ClodDesk d = new ClodDesk();
        due("key " + text, Checks.key(d, text), -1);
        due("fault of " + text, d.fault(0), fault);
        due("place in " + text, d.fault(1), place);
    }

    /** What stands on the tape behind the first n bytes is not read. */
    private static void cutShort(String text, int n, int place) {
        ClodDesk d = new ClodDesk();
        Checks.feed(d, Checks.bytes(text));
        due("key " + n + " of " + text, d.key(n), -1);
        due("fault", d.fault(0), 1);
        due("place", d.fault(1), place);
    }

    private static void holds(String expression, boolean want) {
        ClodDesk d = new ClodDesk();
        due("key " + expression, Checks.key(d, "no:not always;yes:" + expression + ";"), 2);
        String bore = "0-20 loam brown stones 7;20-50 clay grey mottled;50-60 sand grey stones 12;60-90 clay white";
        due("bore", Checks.bore(d, bore, 0, 0), 0);
        due(expression, d.told(0, 3), want ? 1 : -1);
    }

    private static void promise3KeyMeaning() {
        holds("any(peat)", false);
        holds("any(clay and mottled)", true);
        holds("any(clay and black)", false);
        holds("all(mottled)", false);
        holds("any(mottled and sand)", false);
        holds("thick(mottled) = 30", true);
        holds("thick(not mottled and grey) = 10", true);
        holds("at 0(brown) and at 55(grey)", true);
        holds("all(sand or loam or clay)", true);
        holds("all(sand or clay)", false);
        holds("any(not loam and not clay and not sand)", false);
        holds("all(cm >= 10)", true);
        holds("all(cm > 10)", false);
        holds("any(stones = 0)", true);
        holds("any(stones >= 13)", false);
        holds("any(stones > 11 and sand)", true);
        holds("at 0(loam)", true);
        holds("at 19(loam)", true);
        holds("at 20(loam)", false);
        holds("at 20(clay)", true);
        holds("at 89(white)", true);
        holds("at 90(not peat)", false);
        holds("not at 90(peat)", true);
        holds("thick(clay) = 60", true);
        holds("thick(peat) = 0", true);
        holds("thick(grey or loam) <= 59", false);
        holds("thick(grey or loam) <= 60", true);
        holds("from(grey) = 20", true);
        holds("from(peat) = 999", true);
        holds("from(peat) < 999", false);
        holds("deep = 90", true);
        holds("deep<90", false);
        holds("deep>90", false);
        holds("deep>=91", false);
        holds("not not deep>=90", true);
        holds("not not not deep>=90", false);
        // and binds more than or, not more than and
        holds("always or always and not always", true);
        holds("(always or always) and not always", false);
        holds("not always and not always or always", true);
        holds("not (always and not always)", true);
        holds("any(loam or clay and black)", true);
        holds("any((loam or clay) and black)", false);
        holds("any(not (loam or clay or sand))", false);
        holds("not any(not (cm < 20)) or all(not not (stones<13))", true);
        firstLineWins();
    }

    private static void firstLineWins() {
        ClodDesk d = new ClodDesk();
        Checks.key(d, "a:any(peat);b:any(sand);a:always;");
        Checks.bore(d, "0-5 sand red;", 0, 0);
        Checks.bore(d, "0-5 clay red", 0, 1);
        due("kind by the second line", d.told(0, 3), 1);
        due("the second line", d.told(0, 4), 1);
        due("kind by the third line", d.told(1, 3), 0);
        due("the third line", d.told(1, 4), 2);
    }

    private static void promise3KeyFaults() {
        keyFault("x", 1, 1);
        keyFault("x  ", 1, 3);
        keyFault("x:", 1, 2);
        keyFault("x:always", 1, 8);
        keyFault("x:always;;", 1, 9);
        cutShort("x:deep <=5;", 8, 8);
        cutShort("x:deep <55;", 9, 9);
        cutShort("xyz:always;", 2, 2);
        keyFault("x:always;y", 1, 10);
        keyFault("X:always;", 1, 0);
        keyFault("x:alway;", 1, 2);
        keyFault("x:mottled;", 1, 2);
        keyFault("stones:always;", 1, 0);
        keyFault("cm:always;", 1, 0);
        keyFault("sand:always;", 1, 0);
        keyFault("x:any sand;", 1, 6);
        keyFault("x:any(sand;", 1, 10);
        keyFault("x:any();", 1, 6);
        keyFault("x:any(sand red);", 1, 11);
        keyFault("x:any(deep<3);", 1, 6);
        keyFault("x:any(any(sand));", 1, 6);
        keyFault("x:at(sand);", 1, 4);
        keyFault("x:deep = = 3;", 1, 9);
        keyFault("x:deep == 3;", 1, 8);
        keyFault("x:deep < = 3;", 1, 9);
        keyFault("x:deep <> 3;", 1, 8);
        keyFault("x:deep => 3;", 1, 8);
        keyFault("x:deep <== 3;", 1, 9);
        keyFault("x:deep - 3;", 1, 7);
        keyFault("x:deep < y;", 1, 9);
        keyFault("x:any(stones 3);", 1, 13);
        keyFault("x:always and;", 1, 12);
        keyFault("x:always or or always;", 1, 12);
        keyFault("x:not;", 1, 5);
        keyFault("x:(always;", 1, 9);
        keyFault("x:always);", 1, 8);
        keyFault("x:\talways;", 1, 2);
        ClodDesk d = new ClodDesk();
        due("blanks 10 and 32", Checks.key(d, "\nx\n:\n any\n(\nsand and stones>=3 ) ;\n"), 1);
        due("no blanks where none are needed", Checks.key(d, "x:at 3(sand)and deep<4or always;y:at5(sand);"), 2);
    }

    private static void promise4Bore() {
        ClodDesk d = new ClodDesk();
        Checks.feed(d, Checks.bytes(LAYER));
        due("n below 0", d.bore(-1, 0, 0), -2);
        due("n too great", d.bore(21, 0, 0), -2);
        due("no hand", d.bore(13, -1, 0), -2);
        due("no hand", d.bore(13, 3, 0), -2);
        due("no cell", d.bore(13, 0, -1), -2);
        due("no cell", d.bore(13, 0, 16), -2);
        due("the tape stays", d.bore(13, 2, 15), 0);
        due("the tape is empty", d.bore(1, 0, 0), -2);
        due("a bore with a fault", d.bore(0, 0, 0), -1);
        due("the next number", Checks.bore(d, LAYER + ";", 0, 0), 1);
        for (int i = 2; i < 60; i++) {
            due("bore", Checks.bore(d, LAYER, i % 3, i % 16), i);
        }
        due("there are 60", Checks.bore(d, LAYER, 0, 0), -2);
        due("the tape stays", d.feed(0, 0, 0, 0, 0), 40);
    }

    private static void boreFault(String text, int fault, int place) {
        ClodDesk d = new ClodDesk();
        due("bore " + text, Checks.bore(d, text, 0, 0), -1);
        due("fault of " + text, d.fault(0), fault);
        due("place in " + text, d.fault(1), place);
        due("no note", d.count(2), 0);
    }

    private static void promise4BoreFaults() {
        boreFault("", 1, 0);
        boreFault("  ", 1, 2);
        boreFault(";", 1, 0);
        boreFault("sand", 1, 0);
        boreFault("0", 1, 1);
        boreFault("0-", 1, 2);
        boreFault("0 10 sand red", 1, 2);
        boreFault("0-10", 1, 4);
        boreFault("0-10 loess red", 1, 5);
        boreFault("0-10 sandred", 1, 5);
        boreFault("0-10 black red", 1, 5);
        boreFault("0-10 sand chalk", 1, 10);
        boreFault("0-10 sand mottled", 1, 10);
        boreFault("0-10 sand red cm 5", 1, 14);
        boreFault("0-10 sand Red", 1, 10);
        boreFault("0-10 sand red red", 1, 14);
        boreFault("0-10 sand red stones", 1, 20);
        boreFault("0-10 sand red stones 5 mottled", 1, 23);
        boreFault("0-10 sand red stones 5 stones 5", 1, 23);
        boreFault("0-10 sand red stones 100", 2, 21);
        boreFault("0-10 sand red;;", 1, 14);
        boreFault("0-10 sand red;\t", 1, 14);
        boreFault("0-10 sand red:", 1, 13);
        boreFault("1-10 sand red", 3, 0);
        boreFault("301-10 sand red", 2, 0);
        boreFault("0-301 sand red", 2, 2);
        boreFault("0-4294967306 sand red", 2, 2);
        boreFault("0-00 sand red", 3, 2);
        boreFault("0-10 sand red;9-20 sand red", 3, 14);
        boreFault("0-10 sand red;11-20 sand red", 3, 14);
        boreFault("0-10 sand red;10-10 sand red", 3, 17);
        boreFault("0-10 sand red;10-5 sand red", 3, 17);
        boreFault("0-300 sand red;300-301 sand red", 2, 19);
        String eight = "0-1 sand red;1-2 sand red;2-3 sand red;3-4 sand red;4-5 sand red;5-6 sand red;6-7 sand red;7-8 sand red";
        boreFault(eight + ";8-9 sand red", 2, 104);
        boreFault(eight + "; 9", 2, 105);
        boreFault(eight + ";;", 1, 104);
        boreFault(eight + ";sand", 1, 104);
        boreFault(eight + " 8", 1, 104);
        ClodDesk d = new ClodDesk();
        due("eight layers", Checks.bore(d, eight + "; ", 0, 0), 0);
        due("how many", d.told(0, 2), 8);
        due("no blanks", Checks.bore(d, "000-300chalk white mottled stones099;", 0, 0), 1);
        due("stones", d.layer(1, 0, 5), 99);
        due("blanks", Checks.bore(d, "\n0 - 1\nchalk\nwhite\n", 0, 0), 2);
    }

    private static void promise5Fault() {
        ClodDesk d = new ClodDesk();
        due("at first", d.fault(0), 0);
        due("at first", d.fault(1), -1);
        due("a bore", Checks.bore(d, "7-9 sand red", 0, 0), -1);
        due("what 2", d.fault(2), -1);
        due("what -1", d.fault(-1), -1);
        due("refused", d.key(900), -2);
        due("refused", d.bore(900, 0, 0), -2);
        due("that of the bore", d.fault(0), 3);
        due("that of the bore", d.fault(1), 0);
        due("a key", Checks.key(d, "x: deep > 1234;"), -1);
        due("that of the key", d.fault(0), 2);
        due("that of the key", d.fault(1), 10);
        due("a good bore", Checks.bore(d, LAYER, 0, 0), 0);
        due("none any more", d.fault(0), 0);
        due("none any more", d.fault(1), -1);
    }

    private static void promise6Strike() {
        ClodDesk d = new ClodDesk();
        due("no such note", d.strike(0), -1);
        Checks.key(d, "x:always;");
        Checks.bore(d, LAYER, 0, 0);
        due("itself is not there yet", d.strike(1), -1);
        due("below 0", d.strike(-1), -1);
        due("strike", d.strike(0), 1);
        due("struck", d.count(6), 0);
        due("known by 1 it is not struck", d.leftOut(1, 0), 1);
        due("strike the strike", d.strike(1), 2);
        due("it stands again", d.count(6), 1);
        due("known by 2 it is struck", d.leftOut(2, 0), 0);
        due("strike that", d.strike(2), 3);
        due("struck again", d.count(6), 0);
        due("struck twice", d.strike(0), 4);
        due("the first of both is struck", d.strike(1), 5);
        due("the other one still strikes", d.count(6), 0);
        due("and that one goes, too", d.strike(4), 6);
        due("it stands", d.count(6), 1);
        for (int i = 7; i < 60; i++) {
            due("strike", d.strike(i - 1), i);
        }
        due("there are 60", d.strike(0), -1);
    }

    private static void promise13Layer() {
        ClodDesk d = new ClodDesk();
        Checks.bore(d, "0-25 peat black mottled;25-26 silt white stones 42", 0, 0);
        int[][] fields = {{0, 25, 4, 0, 1, 0}, {25, 26, 1, 4, 0, 42}};
        for (int k = 0; k < 2; k++) {
            for (int what = 0; what < 6; what++) {
                due("layer", d.layer(0, k, what), fields[k][what]);
            }
        }
        d.strike(0);
        due("a struck bore is told", d.layer(0, 1, 5), 42);
        int[][] wrong = {{-1, 0, 0}, {1, 0, 0}, {2, 0, 0}, {0, -1, 0}, {0, 2, 0}, {0, 0, -1}, {0, 0, 6}};
        for (int[] w : wrong) {
            due("no such layer", d.layer(w[0], w[1], w[2]), -1);
        }
        due("another bore where a longer one was", Checks.bore(d, LAYER, 0, 0), 2);
        due("its second layer", d.layer(2, 1, 0), -1);
    }

    private static void promise14Told() {
        ClodDesk d = new ClodDesk();
        Checks.bore(d, "0-25 peat black;25-30 clay red", 1, 7);
        int[] without = {1, 7, 2, -1, -1, -2};
        for (int what = 0; what < 6; what++) {
            due("without a key", d.told(0, what), without[what]);
        }
        Checks.key(d, "a:any(sand);b:any(chalk);a:any(peat);");
        due("kind by the key of now", d.told(0, 3), 0);
        due("line by the key of now", d.told(0, 4), 2);
        d.strike(0);
        due("a struck bore has its kind", d.told(0, 3), 0);
        due("a strike", d.told(1, 0), -2);
        due("no note", d.told(2, 0), -2);
        due("no note", d.told(-1, 0), -2);
        due("no what", d.told(0, -1), -2);
    }
}

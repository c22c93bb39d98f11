import java.nio.charset.StandardCharsets;

/** The boundary cases that the document's terms ==== 2. name: bores as texts, their faults, and what is known. */
public final class BoreTextEdgesTest {
    private static final Checks CHECKS = new Checks("BoreTextEdgesTest");
    private static final String LAYER = "0-10 sand red";
    private static final String EIGHT = "0-1 sand red;1-2 sand red;2-3 sand red;3-4 sand red;"
        + "4-5 sand red;5-6 sand red;6-7 sand red;7-8 sand red";

    public static void main(String[] args) {
        layersAndSemicolons();
        texAndColourWords();
        mottledAndStones();
        everyByteBehindAWord();
        everyByteAhead();
        everyByteBetweenDepths();
        depthsOfANumber();
        stonesOfANumber();
        firstBeginsAtNought();
        nextBeginsWhereOneEnds();
        endsDeeperThanItBegins();
        eightLayersAtMost();
        firstFaultAlongTheText();
        leastFaultOfOnePlace();
        anotherWordAtEachPlace();
        everyCutOfAText();
        sixtyNotes();
        strikesOfStrikes();
        knownByEachNumber();
        CHECKS.end();
    }

    private static void due(String call, int got, int want) {
        CHECKS.due(call, got, want);
    }

    private static void good(String text, int layers) {
        ClodDesk d = new ClodDesk();
        due("bore " + text, Checks.bore(d, text, 0, 0), 0);
        due("fault of " + text, d.fault(0), 0);
        due("place in " + text, d.fault(1), ClodDesk.NONE);
        due("layers of " + text, d.told(0, 2), layers);
    }

    private static void bad(String text, int fault, int place) {
        ClodDesk d = new ClodDesk();
        due("bore " + text, Checks.bore(d, text, 0, 0), ClodDesk.NONE);
        due("fault of " + text, d.fault(0), fault);
        due("place in " + text, d.fault(1), place);
        due("notes behind " + text, d.count(2), 0);
    }

    /** "LAYER { ';' LAYER } [ ';' ]" */
    private static void layersAndSemicolons() {
        good(LAYER, 1);
        good(LAYER + ";", 1);
        good(LAYER + " ; \n", 1);
        good(LAYER + ";10-20 clay grey", 2);
        good(LAYER + ";10-20 clay grey;", 2);
        bad("", 1, 0);
        bad(" \n", 1, 2);
        bad(";", 1, 0);
        bad(";" + LAYER, 1, 0);
        bad(LAYER + ";;", 1, 14);
        bad(LAYER + " 10-20 clay grey", 1, 14);
        bad(LAYER + ";10-20 clay grey;;", 1, 30);
    }

    /** "TEX: sand silt loam clay peat chalk (0 .. 5). COLOUR: black brown red grey white (0 .. 4)." */
    private static void texAndColourWords() {
        String[] tex = {"sand", "silt", "loam", "clay", "peat", "chalk"};
        String[] colour = {"black", "brown", "red", "grey", "white"};
        for (int t = 0; t < 6; t++) {
            for (int c = 0; c < 5; c++) {
                ClodDesk d = new ClodDesk();
                due("bore", Checks.bore(d, "0-10 " + tex[t] + " " + colour[c], 0, 0), 0);
                due(tex[t], d.layer(0, 0, 2), t);
                due(colour[c], d.layer(0, 0, 3), c);
            }
            bad("0-10 red " + tex[t], 1, 5);
            bad("0-10 sand " + tex[t], 1, 10);
        }
        for (String c : colour) {
            bad("0-10 " + c, 1, 5);
        }
    }

    private static void lookOf(String text, int mottled, int stones) {
        ClodDesk d = new ClodDesk();
        due("bore " + text, Checks.bore(d, text, 0, 0), 0);
        due("mottled " + text, d.layer(0, 0, 4), mottled);
        due("stones " + text, d.layer(0, 0, 5), stones);
    }

    /** "[ mottled ] [ stones N ]", "(0 without)" */
    private static void mottledAndStones() {
        lookOf(LAYER, 0, 0);
        lookOf(LAYER + " mottled", 1, 0);
        lookOf(LAYER + " stones 7", 0, 7);
        lookOf(LAYER + " mottled stones 7", 1, 7);
        bad(LAYER + " stones 7 mottled", 1, 23);
        bad(LAYER + " mottled mottled", 1, 22);
        bad(LAYER + " stones 7 stones 7", 1, 23);
        bad(LAYER + " stones 7 7", 1, 23);
        bad(LAYER + " 7", 1, 14);
        bad("0-10 sand mottled red", 1, 10);
        ClodDesk d = new ClodDesk();
        Checks.bore(d, LAYER + " mottled stones 7", 0, 0);
        Checks.key(d, "x:always;");
        due("a bad one ahead of it leaves nothing behind", Checks.bore(d, LAYER + " mottled stones 9;x", 0, 0), -1);
        due("a plain one", Checks.bore(d, LAYER, 0, 0), 1);
        due("is not mottled", d.layer(1, 0, 4), 0);
        due("has no stones", d.layer(1, 0, 5), 0);
    }

    private static void byteDue(String ahead, int b, String behind, int fault, int place) {
        String text = ahead + new String(new byte[] {(byte) b}, StandardCharsets.ISO_8859_1) + behind;
        if (fault == 0) {
            good(text, 1);
        } else {
            bad(text, fault, place);
        }
    }

    private static boolean isBlank(int b) {
        return b == 10 || b == 32;
    }

    private static boolean isDigit(int b) {
        return b >= 48 && b <= 57;
    }

    private static boolean isSmallLetter(int b) {
        return b >= 97 && b <= 122;
    }

    /** "Blanks 10, 32. Words: small letters in a row." */
    private static void everyByteBehindAWord() {
        for (int b = 0; b < 256; b++) {
            boolean fits = isBlank(b) || b == ';';
            byteDue(LAYER, b, "", fits ? 0 : 1, isSmallLetter(b) ? 10 : 13);
            byteDue("0-10 sand", b, "red", isBlank(b) ? 0 : 1, isSmallLetter(b) ? 5 : 9);
        }
    }

    private static void everyByteAhead() {
        for (int b = 0; b < 256; b++) {
            boolean fits = isBlank(b) || b == '0';
            byteDue("", b, LAYER, fits ? 0 : isDigit(b) ? 3 : 1, 0);
            byteDue(LAYER + ";", b, "", isBlank(b) ? 0 : isDigit(b) ? 3 : 1, 14);
        }
    }

    /** "N '-' N": nothing else stands between both */
    private static void everyByteBetweenDepths() {
        for (int b = 0; b < 256; b++) {
            if (isDigit(b)) {
                // one number of them: 10 .. 210 do not fit, from 310 on they are beyond what is said
                byteDue("0", b, "10 sand red", b <= '2' ? 3 : 2, 0);
            } else {
                byteDue("0", b, "10 sand red", b == '-' ? 0 : 1, isBlank(b) ? 2 : 1);
            }
        }
        good("0 -10 sand red", 1);
        good("0- 10 sand red", 1);
        bad("0--10 sand red", 1, 2);
        bad("-0-10 sand red", 1, 0);
    }

    /** "N: digits: depths 0 .. 300"; "2 a number beyond what is said (at it)" */
    private static void depthsOfANumber() {
        good("0-1 sand red", 1);
        good("0-300 sand red", 1);
        bad("0-301 sand red", 2, 2);
        bad("0-999 sand red", 2, 2);
        bad("0-1000 sand red", 2, 2);
        good("0-000000000000000000000300 sand red", 1);
        good("000000000000000000000-10 sand red", 1);
        String[] wraps = {"266", "2147483647", "2147483648", "2147483658", "4294967295", "4294967296", "4294967306",
            "18446744073709551616", "18446744073709551626", "100000000000000000000000000000"};
        for (int i = 1; i < wraps.length; i++) {
            bad("0-" + wraps[i] + " sand red", 2, 2);
            bad(wraps[i] + "-10 sand red", 2, 0);
        }
        good("0-" + wraps[0] + " sand red", 1);
        good("0-299 sand red;299-300 clay grey", 2);
        bad("0-299 sand red;299-301 clay grey", 2, 19);
        bad("0-300 sand red;300-301 clay grey", 2, 19);
        bad("0-300 sand red;300-300 clay grey", 3, 19);
    }

    /** "of stones 0 .. 99 (0 without)" */
    private static void stonesOfANumber() {
        lookOf(LAYER + " stones 0", 0, 0);
        lookOf(LAYER + " stones 1", 0, 1);
        lookOf(LAYER + " stones 99", 0, 99);
        lookOf(LAYER + " stones 00000000000000000099", 0, 99);
        bad(LAYER + " stones 100", 2, 21);
        bad(LAYER + " stones 4294967296", 2, 21);
        bad(LAYER + " stones  18446744073709551621", 2, 22);
        bad(LAYER + " stones -1", 1, 21);
        bad(LAYER + " stones", 1, 20);
        bad(LAYER + " stones;", 1, 20);
    }

    /** "The first LAYER begins at 0": "3 a depth that doesn't fit what is said (at it)" */
    private static void firstBeginsAtNought() {
        good("00-10 sand red", 1);
        bad("1-10 sand red", 3, 0);
        bad(" 300-10 sand red", 3, 1);
        bad(" 301-10 sand red", 2, 1);
    }

    /** "each next one where that ahead ends" */
    private static void nextBeginsWhereOneEnds() {
        good(LAYER + ";10-20 clay grey", 2);
        good(LAYER + ";010-20 clay grey", 2);
        bad(LAYER + ";9-20 clay grey", 3, 14);
        bad(LAYER + "; 11-20 clay grey", 3, 15);
        bad(LAYER + ";0-20 clay grey", 3, 14);
        bad(LAYER + ";10-20 clay grey;10-30 clay grey", 3, 30);
        bad(LAYER + ";10-20 clay grey;21-30 clay grey", 3, 30);
        good(LAYER + ";10-20 clay grey;20-30 clay grey", 3);
    }

    /** "each ends deeper than it begins" */
    private static void endsDeeperThanItBegins() {
        bad("0-0 sand red", 3, 2);
        good("0-1 sand red", 1);
        bad(LAYER + ";10-9 clay grey", 3, 17);
        bad(LAYER + ";10- 10 clay grey", 3, 18);
        good(LAYER + ";10-11 clay grey", 2);
    }

    /** "8 LAYERS at most"; "a ninth LAYER (at its first TOKEN, if that is a number)" */
    private static void eightLayersAtMost() {
        good(EIGHT.substring(0, EIGHT.lastIndexOf(';')), 7);
        good(EIGHT, 8);
        good(EIGHT + ";", 8);
        good(EIGHT + " ; \n ", 8);
        int end = EIGHT.length();
        bad(EIGHT + ";8-9 sand red", 2, end + 1);
        bad(EIGHT + "; \n 8", 2, end + 4);
        bad(EIGHT + ";7-9 sand red", 2, end + 1);
        bad(EIGHT + ";999", 2, end + 1);
        bad(EIGHT + ";x", 1, end + 1);
        bad(EIGHT + ";sand", 1, end + 1);
        bad(EIGHT + ";-", 1, end + 1);
        bad(EIGHT + ";;", 1, end + 1);
        ClodDesk d = new ClodDesk();
        Checks.bore(d, EIGHT, 0, 0);
        due("the eighth layer", d.layer(0, 7, 1), 8);
        due("no ninth layer", d.layer(0, 8, 1), -1);
    }

    /** "FAULTS, the first along the text" */
    private static void firstFaultAlongTheText() {
        bad("0-0 rand red", 3, 2);
        bad("1-301 rand red", 3, 0);
        bad("0-301 rand red", 2, 2);
        bad("0-10 rand red;9-20 clay grey", 1, 5);
        bad("0-10 sand red stones 100;9-5", 2, 21);
        bad("0-10 sand red;9-301 x", 3, 14);
        bad(EIGHT.replace("7-8", "7-7") + ";8-9 sand red", 3, 93);
        bad("0-10 sand ?red", 1, 10);
    }

    /** "(of one place the least)": a number that is too great and doesn't fit either */
    private static void leastFaultOfOnePlace() {
        bad("301-302 sand red", 2, 0);
        bad(LAYER + ";301-20 clay grey", 2, 14);
        bad(EIGHT + ";301-302 sand red", 2, EIGHT.length() + 1);
        bad("0-10 sand 301", 1, 10);
        bad("0-10 sand red 301", 1, 14);
    }

    /** "1 a TOKEN that is none (another word, too) or can't stand there" */
    private static void anotherWordAtEachPlace() {
        bad("x-10 sand red", 1, 0);
        bad("0x10 sand red", 1, 1);
        bad("0-x sand red", 1, 2);
        bad("0-10 sandy red", 1, 5);
        bad("0-10 san red", 1, 5);
        bad("0-10 sand redd", 1, 10);
        bad("0-10 sand re", 1, 10);
        bad("0-10 sandred", 1, 5);
        bad(LAYER + " mottle", 1, 14);
        bad(LAYER + " mottledx", 1, 14);
        bad(LAYER + " stone 5", 1, 14);
        bad(LAYER + " stones x", 1, 21);
        bad(LAYER + " mottledstones 5", 1, 14);
        for (String word : "cm or and not always any all at thick from deep".split(" ")) {
            bad("0-10 " + word, 1, 5);
            bad(LAYER + " " + word, 1, 14);
        }
        good("0-10sand red", 1);
        good(LAYER + " stones5", 1);
        good(LAYER + "\nmottled\n\nstones\n5\n", 1);
    }

    /** "(the length, if more must come)": each beginning of a text, told as faults and places along it */
    private static void everyCutOfAText() {
        String text = "0-10 sand red mottled stones 5;10-20 clay grey";
        int[][] dueAt = {{1, 0}, {1, 1}, {1, 2}, {1, 3}, {1, 4}, {1, 5}, {1, 5}, {1, 5}, {1, 5}, {1, 9}, {1, 10}, {1, 10}, {1, 10},
            {0}, {0}, {1, 14}, {1, 14}, {1, 14}, {1, 14}, {1, 14}, {1, 14}, {0}, {0}, {1, 22}, {1, 22}, {1, 22}, {1, 22}, {1, 22},
            {1, 28}, {1, 29}, {0}, {0}, {3, 31}, {1, 33}, {1, 34}, {3, 34}, {1, 36}, {1, 37}, {1, 37}, {1, 37}, {1, 37}, {1, 41},
            {1, 42}, {1, 42}, {1, 42}, {1, 42}, {0}};
        for (int n = 0; n <= text.length(); n++) {
            ClodDesk d = new ClodDesk();
            Checks.feed(d, Checks.bytes(text));
            boolean fits = dueAt[n][0] == 0;
            due("the first " + n, d.bore(n, 0, 0), fits ? 0 : -1);
            due("fault of the first " + n, d.fault(0), dueAt[n][0]);
            due("place of the first " + n, d.fault(1), fits ? -1 : dueAt[n][1]);
        }
    }

    /** "NOTES, at most 60, numbered from 0 on" */
    private static void sixtyNotes() {
        ClodDesk bored = new ClodDesk();
        ClodDesk struck = new ClodDesk();
        Checks.bore(struck, LAYER, 0, 0);
        for (int i = 0; i < 60; i++) {
            due("bore " + i, Checks.bore(bored, LAYER, i % 3, i % 16), i);
            due("strike " + i, i == 0 ? 0 : struck.strike(i - 1), i);
        }
        for (ClodDesk d : new ClodDesk[] {bored, struck}) {
            due("there are 60", d.count(2), 60);
            due("no room for a bore", Checks.bore(d, LAYER, 0, 0), -2);
            due("no room for a strike", d.strike(0), -1);
            due("there still are 60", d.count(2), 60);
        }
        due("the last one", bored.told(59, 1), 59 % 16);
        due("none behind", bored.told(60, 1), -2);
        bored.land(4, 4);
        due("room again", Checks.bore(bored, LAYER, 0, 0), 0);
    }

    /** "(a STRIKE may be STRUCK: then it doesn't count; asked from the last one on)" */
    private static void strikesOfStrikes() {
        ClodDesk d = new ClodDesk();
        Checks.key(d, "x:always;");
        Checks.bore(d, LAYER, 0, 0);
        for (int i = 1; i < 60; i++) {
            due("strike", d.strike(i - 1), i);
            due("a chain of " + i, d.count(6), i % 2 == 0 ? 1 : 0);
        }
        ClodDesk twice = new ClodDesk();
        Checks.key(twice, "x:always;");
        Checks.bore(twice, LAYER, 0, 0);
        int[] targets = {0, 0, 1, 2, 3, 4};
        int[] counts = {0, 0, 0, 1, 0, 0};
        for (int i = 0; i < targets.length; i++) {
            twice.strike(targets[i]);
            due("behind a strike of " + targets[i], twice.count(6), counts[i]);
        }
    }

    /** "As KNOWN by n: the first n NOTES, without those STRUCK by one of these" */
    private static void knownByEachNumber() {
        ClodDesk d = new ClodDesk();
        Checks.key(d, "x:any(sand);");
        Checks.bore(d, LAYER, 0, 0);
        Checks.bore(d, LAYER, 1, 1);
        d.strike(1);
        Checks.bore(d, "0-10 clay red", 2, 2);
        d.strike(2);
        d.strike(0);
        int[] counts = {0, 1, 2, 1, 1, 2, 1};
        for (int n = 0; n < counts.length; n++) {
            due("known by " + n, d.leftOut(n, 0), counts[n]);
        }
        due("known by all", d.count(6), 1);
        CHECKS.ends("n", 0, 6, -1, n -> d.leftOut(n, 0));
    }
}

import java.nio.charset.StandardCharsets;

/** The boundary cases that the document's terms ==== 3. name: the key as a text, its faults, and what it says of bores. */
public final class KeyTextEdgesTest {
    private static final Checks CHECKS = new Checks("KeyTextEdgesTest");
    private static final String[] WORDS = ("sand silt loam clay peat chalk black brown red grey white mottled stones cm "
        + "or and not always any all at thick from deep").split(" ");
    private static final String[] COMPARES = {"<", "<=", "=", ">=", ">"};
    /** Layers of 20, 30, 10 and 30. */
    private static final String BORE = "0-20 loam brown stones 7;20-50 clay grey mottled;50-60 sand grey stones 12;60-90 clay white";

    public static void main(String[] args) {
        noLines();
        everyByteBehindALine();
        everyByteInPlaceOfAKind();
        lettersOfAKind();
        wordsOfTheLanguageAsKinds();
        kindsAreNumberedAsTheyCome();
        eightKindsAtMost();
        sixteenLinesAtMost();
        lineAheadOfKind();
        eightBracketsOpen();
        knotsAreOneEach();
        aNinetySeventhKnot();
        numbersTo999();
        everyCompare();
        everyCutOfAKey();
        tokensThatCannotStand();
        firstFaultAlongTheText();
        anyAndAll();
        atADepth();
        thickFromDeep();
        ofALayer();
        notAndOr();
        firstLineThatHolds();
        noneOfTheKeysAhead();
        CHECKS.end();
    }

    private static void due(String call, int got, int want) {
        CHECKS.due(call, got, want);
    }

    private static ClodDesk good(String text, int lines) {
        ClodDesk d = new ClodDesk();
        due("key " + text, Checks.key(d, text), lines);
        due("fault of " + text, d.fault(0), 0);
        due("place in " + text, d.fault(1), ClodDesk.NONE);
        due("lines of " + text, d.count(4), lines);
        return d;
    }

    private static void bad(String text, int fault, int place) {
        ClodDesk d = new ClodDesk();
        due("key " + text, Checks.key(d, text), ClodDesk.NONE);
        due("fault of " + text, d.fault(0), fault);
        due("place in " + text, d.fault(1), place);
        due("lines behind " + text, d.count(4), 0);
    }

    /** "THE KEY, a TEXT: { KIND ':' E ';' }" */
    private static void noLines() {
        due("kinds of none", good("", 0).count(3), 0);
        due("kinds of blanks", good(" \n \n", 0).count(3), 0);
        good("x:always;", 1);
        good(" x : always ; \n", 1);
        good("x:always;y:always;", 2);
        bad(";", 1, 0);
        bad("x:always;;", 1, 9);
        bad("x:;", 1, 2);
        bad("x always;", 1, 2);
        bad("x:always y:always;", 1, 9);
        bad("x:always always;", 1, 9);
        bad(":always;", 1, 0);
        bad("5:always;", 1, 0);
    }

    private static String with(String ahead, int b, String behind) {
        return ahead + new String(new byte[] {(byte) b}, StandardCharsets.ISO_8859_1) + behind;
    }

    private static boolean isBlank(int b) {
        return b == 10 || b == 32;
    }

    private static boolean isSmallLetter(int b) {
        return b >= 97 && b <= 122;
    }

    private static void everyByteBehindALine() {
        for (int b = 0; b < 256; b++) {
            String text = with("x:always", b, "");
            if (b == ';') {
                good(text, 1);
            } else {
                bad(text, 1, isSmallLetter(b) ? 2 : isBlank(b) ? 9 : 8);
            }
        }
    }

    /** "KIND: a word of 1 .. 8 small letters" */
    private static void everyByteInPlaceOfAKind() {
        for (int b = 0; b < 256; b++) {
            String text = with("", b, ":always;");
            if (isSmallLetter(b)) {
                good(text, 1);
            } else {
                bad(text, 1, isBlank(b) ? 1 : 0);
            }
        }
    }

    /** "(a word of more than 8 letters, ...)": 1 .. 8 are a kind */
    private static void lettersOfAKind() {
        for (int letters = 1; letters <= 12; letters++) {
            String text = "q".repeat(letters) + ":always;";
            if (letters <= 8) {
                good(text, 1);
            } else {
                bad(text, 1, 0);
            }
        }
        bad("x:always;\nninelette:always;", 1, 10);
        bad("alwaysandever:always;", 1, 0);
        bad("x:alwaysalways;", 1, 2);
        bad("kindone kindtwo:always;", 1, 8);
        due("eight letters, unlike in the last one", good("eightlea:always;eightleb:always;eightlea:always;", 3).count(3), 2);
        due("eight letters, unlike in the first one", good("aightlea:always;bightlea:always;", 2).count(3), 2);
        due("letters by their number", good("a:always;aa:always;aaa:always;b:always;ab:always;ba:always;", 6).count(3), 6);
    }

    /** "none of those of the language (below, and of 2.)" */
    private static void wordsOfTheLanguageAsKinds() {
        for (String word : WORDS) {
            bad(word + ":always;", 1, 0);
            good(word.substring(0, word.length() - 1) + ":always;", 1);
            good(word + "s:always;", 1);
            good("q" + word + ":always;", 1);
        }
    }

    /** "KINDS are numbered by where they come first" */
    private static void kindsAreNumberedAsTheyCome() {
        ClodDesk d = good("zz:any(sand);aa:any(clay);zz:any(peat);mm:always;", 4);
        due("kinds", d.count(3), 3);
        char[] texes = {'s', 'c', 'p', 'l'};
        int[] kinds = {0, 1, 0, 2};
        for (int i = 0; i < 4; i++) {
            Checks.boreOf(d, texes[i], 0, 0);
            due("kind", d.told(i, 3), kinds[i]);
            due("line", d.told(i, 4), i);
        }
    }

    /** "8 at most": "a ninth KIND (at the KIND)" */
    private static void eightKindsAtMost() {
        String eight = "a:always;b:always;c:always;d:always;e:always;f:always;g:always;h:always;";
        due("eight kinds", good(eight, 8).count(3), 8);
        due("an old kind behind eight", good(eight + "a:always;h:always;", 10).count(3), 8);
        bad(eight + "i:always;", 2, 72);
        bad(eight + " i", 2, 73);
        bad(eight + "h:always;i:always;", 2, 81);
        bad(eight + "sand:always;", 1, 72);
        bad(eight + "ninelette:always;", 1, 72);
        bad(eight + "9", 1, 72);
    }

    /** "16 LINES at most": "a 17th LINE (at the KIND)" */
    private static void sixteenLinesAtMost() {
        String line = "x:always;";
        due("lines", good(line.repeat(16), 16).count(4), 16);
        good(line.repeat(16) + " \n", 16);
        bad(line.repeat(17), 2, 144);
        bad(line.repeat(16) + "\n\nx", 2, 146);
        bad(line.repeat(16) + ";", 1, 144);
        bad(line.repeat(16) + "7", 1, 144);
        bad(line.repeat(15) + "x:always", 1, 143);
        ClodDesk d = new ClodDesk();
        Checks.key(d, "x:not always;".repeat(15) + "y:always;");
        Checks.boreOf(d, 's', 0, 0);
        due("the 16th line holds", d.told(0, 4), 15);
        due("its kind", d.told(0, 3), 1);
    }

    /** "(at the KIND; the LINE ahead of the KIND)": both are a fault 2 at one place; of one place the least */
    private static void lineAheadOfKind() {
        String eight = "a:always;b:always;c:always;d:always;e:always;f:always;g:always;h:always;";
        bad(eight + eight + "i:always;", 2, 144);
        bad(eight + eight + "a:always;", 2, 144);
        bad(eight + eight + "sand:always;", 1, 144);
        bad(eight + eight + "ninelette:always;", 1, 144);
    }

    /** "a ninth '(' open" */
    private static void eightBracketsOpen() {
        good("x:" + "(".repeat(8) + "always" + ")".repeat(8) + ";", 1);
        bad("x:" + "(".repeat(9) + "always" + ")".repeat(9) + ";", 2, 10);
        good("x:" + "(".repeat(7) + "any(sand)" + ")".repeat(7) + ";", 1);
        bad("x:" + "(".repeat(8) + "any(sand)" + ")".repeat(8) + ";", 2, 13);
        bad("x:" + "(".repeat(8) + "all(sand)" + ")".repeat(8) + ";", 2, 13);
        bad("x:" + "(".repeat(8) + "at 3(sand)" + ")".repeat(8) + ";", 2, 14);
        bad("x:" + "(".repeat(8) + "thick(sand)<3" + ")".repeat(8) + ";", 2, 15);
        bad("x:" + "(".repeat(8) + "from(sand)<3" + ")".repeat(8) + ";", 2, 14);
        good("x:any" + "(".repeat(8) + "sand" + ")".repeat(8) + ";", 1);
        bad("x:any" + "(".repeat(9) + "sand" + ")".repeat(9) + ";", 2, 13);
        good("x:((((any((((sand))))))));", 1);
        bad("x:((((any(((((sand)))))))));", 2, 13);
        String eight = "(".repeat(8) + "always" + ")".repeat(8);
        good("x:" + eight + " or " + eight + ";y:" + eight + ";", 2);
        bad("x:" + eight + " or (" + eight + ");", 2, 36);
        good("x:(((((((always) and (always)))))));", 1);
        bad("x:((((((((always) and (always)))))))) and (((((((((always)))))))));", 2, 50);
        bad("x:" + "(".repeat(8) + "not(always)" + ")".repeat(8) + ";", 2, 13);
        bad("x:" + "(".repeat(8) + "always(always)", 1, 16);
    }

    /** "KNOT of the whole text (always, any, all, at, thick, from, deep, TEX, COLOUR, mottled, stones, cm, not, and, or: one each)" */
    private static void knotsAreOneEach() {
        String[] texts = {"", "x:always;", "x:any(sand);", "x:all(red);", "x:at 5(mottled);", "x:thick(stones<5)<5;",
            "x:from(cm>=5)>=5;", "x:deep=5;", "x:not always;", "x:always and always;", "x:always or always;",
            "x:any(not sand);", "x:any(sand and red);", "x:any(sand or red);", "x:((always));", "x:not(not(any((sand))));",
            "x:always;y:deep<3;x:any(sand);"};
        int[] knots = {0, 1, 2, 2, 2, 2, 2, 1, 2, 3, 3, 3, 4, 4, 1, 4, 4};
        for (int i = 0; i < texts.length; i++) {
            due("knots of " + texts[i], good(texts[i], i == 0 ? 0 : i == 16 ? 3 : 1).count(5), knots[i]);
        }
    }

    /** Text with 96 knots ahead of what is told next, which so begins the 97th. */
    private static void aNinetySeventhKnot() {
        String all = "x:" + "not ".repeat(95) + "always";
        due("96 knots", good(all + ";", 1).count(5), 96);
        bad(all + " and always;", 2, 389);
        bad(all + "\nor", 2, 389);
        String[] ofBore = {"always", "any(sand)", "all(sand)", "at 5(sand)", "thick(sand)<5", "from(sand)<5", "deep<5", "not always"};
        for (String knot : ofBore) {
            bad("x:" + "not ".repeat(96) + knot + ";", 2, 386);
            bad("x:" + "not ".repeat(94) + "(always or " + knot, 2, 389);
            bad("y:" + "not ".repeat(95) + "always;\nx:" + knot, 2, 392);
        }
        String[] ofLayer = {"sand", "silt", "loam", "clay", "peat", "chalk", "black", "brown", "red", "grey", "white", "mottled",
            "stones<5", "cm<5", "not sand"};
        for (String knot : ofLayer) {
            bad("x:any(" + "not ".repeat(95) + knot + ");", 2, 386);
            due("96 with " + knot, good("x:any(" + "not ".repeat(knot.startsWith("not") ? 93 : 94) + knot + ");", 1).count(5), 96);
        }
        bad("x:any(" + "not ".repeat(94) + "sand and red);", 2, 387);
        bad("x:any(" + "not ".repeat(94) + "sand or red);", 2, 387);
        // a word that can't stand there is fault 1, even where no knot has room
        bad("x:" + "not ".repeat(96) + "sand;", 1, 386);
        bad("x:any(" + "not ".repeat(95) + "deep<3);", 1, 386);
        bad(all + " always;", 1, 389);
        bad(all + " x;", 1, 389);
        bad(all + ";any", 1, 389);
        due("a new key counts anew", Checks.key(good(all + ";", 1), "x:always;"), 1);
    }

    /** "N above 999" (at it) in each of the six places */
    private static void numbersTo999() {
        String[] ahead = {"x:at ", "x:thick(sand)<", "x:from(sand)>=", "x:deep =", "x:any(stones<", "x:any(cm<= "};
        String[] behind = {"(sand);", ";", ";", ";", ");", ");"};
        String[] wraps = {"1000", "1001", "9999", "65536", "2147483648", "4294967296", "4294967301", "18446744073709551617"};
        for (int i = 0; i < ahead.length; i++) {
            good(ahead[i] + "0" + behind[i], 1);
            good(ahead[i] + "999" + behind[i], 1);
            good(ahead[i] + "00000000000000000000999" + behind[i], 1);
            for (String wrap : wraps) {
                bad(ahead[i] + wrap + behind[i], 2, ahead[i].length());
            }
            bad(ahead[i] + behind[i], 1, ahead[i].length());
            bad(ahead[i] + "-5" + behind[i], 1, ahead[i].length());
            bad(ahead[i] + "x" + behind[i], 1, ahead[i].length());
            bad(ahead[i], 1, ahead[i].length());
        }
    }

    private static void holds(String expression, boolean want) {
        ClodDesk d = new ClodDesk();
        due("key " + expression, Checks.key(d, "yes:" + expression + ";"), 1);
        due("bore", Checks.bore(d, BORE, 0, 0), 0);
        due(expression, d.told(0, 3), want ? 0 : ClodDesk.NONE);
    }

    /** A measure that is v: each compare with the numbers below, at and above it. */
    private static void compares(String ahead, int v, String behind) {
        for (int n = Math.max(0, v - 1); n <= Math.min(999, v + 1); n++) {
            boolean[] want = {v < n, v <= n, v == n, v >= n, v > n};
            for (int c = 0; c < 5; c++) {
                holds(ahead + COMPARES[c] + n + behind, want[c]);
            }
        }
    }

    /** "C: < <= = >= > (a = right behind belongs to it). N: digits." */
    private static void everyCompare() {
        for (String c : COMPARES) {
            good("x:deep" + c + "5;", 1);
            good("x:deep " + c + " 5;", 1);
            good("x:deep\n" + c + "\n5;", 1);
        }
        bad("x:deep< =5;", 1, 8);
        bad("x:deep>\n=5;", 1, 8);
        bad("x:deep=<5;", 1, 7);
        bad("x:deep=>5;", 1, 7);
        bad("x:deep<>5;", 1, 7);
        bad("x:deep><5;", 1, 7);
        bad("x:deep<<5;", 1, 7);
        bad("x:deep<==5;", 1, 8);
        bad("x:deep>==5;", 1, 8);
        bad("x:deep!5;", 1, 6);
        bad("x:deep 5;", 1, 7);
        bad("x:deep;", 1, 6);
        bad("x:deep<;", 1, 7);
        bad("x:deep<=;", 1, 8);
    }

    /** "(the length, if more must come)": each beginning of a key, told as faults and places along it */
    private static void everyCutOfAKey() {
        String text = "ab : at 12 (red) or deep<=34; c:always;";
        int[][] dueAt = {{0}, {1, 1}, {1, 2}, {1, 3}, {1, 4}, {1, 5}, {1, 5}, {1, 7}, {1, 8}, {1, 9}, {1, 10}, {1, 11}, {1, 12},
            {1, 12}, {1, 12}, {1, 15}, {1, 16}, {1, 17}, {1, 17}, {1, 19}, {1, 20}, {1, 20}, {1, 20}, {1, 20}, {1, 24}, {1, 25},
            {1, 26}, {1, 27}, {1, 28}, {0}, {0}, {1, 31}, {1, 32}, {1, 32}, {1, 32}, {1, 32}, {1, 32}, {1, 32}, {1, 38}, {0}};
        for (int n = 0; n <= text.length(); n++) {
            ClodDesk d = new ClodDesk();
            Checks.feed(d, Checks.bytes(text));
            boolean fits = dueAt[n][0] == 0;
            due("the first " + n, d.key(n), fits ? n / 29 + n / 39 : -1);
            due("fault of the first " + n, d.fault(0), dueAt[n][0]);
            due("place of the first " + n, d.fault(1), fits ? -1 : dueAt[n][1]);
        }
    }

    /** "1 as above": each word of the language where it can't stand */
    private static void tokensThatCannotStand() {
        for (String word : "sand silt loam clay peat chalk black brown red grey white mottled stones cm or and".split(" ")) {
            bad("x:" + word, 1, 2);
            bad("x:not " + word, 1, 6);
            bad("x:(" + word, 1, 3);
        }
        for (String word : "or and always any all at thick from deep q".split(" ")) {
            bad("x:any(" + word, 1, 6);
            bad("x:any(not " + word, 1, 10);
            bad("x:any((" + word, 1, 7);
        }
        for (String word : "any all thick from".split(" ")) {
            bad("x:" + word + " sand;", 1, word.length() + 3);
            bad("x:" + word + " 5(sand);", 1, word.length() + 3);
            bad("x:" + word + "();", 1, word.length() + 3);
            bad("x:" + word + "(sand;", 1, word.length() + 7);
        }
        bad("x:at(sand);", 1, 4);
        bad("x:at 5 sand;", 1, 7);
        bad("x:at 5;", 1, 6);
        bad("x:always(sand);", 1, 8);
        bad("x:deep(sand)<5;", 1, 6);
        bad("x:any(sand)<5;", 1, 11);
        bad("x:thick(sand);", 1, 13);
        bad("x:from(sand) always;", 1, 13);
        bad("x:any(sand red);", 1, 11);
        bad("x:any(sand<5);", 1, 10);
        bad("x:any(mottled<5);", 1, 13);
        bad("x:any(stones 5);", 1, 13);
        bad("x:any(cm);", 1, 8);
        bad("x:(always;", 1, 9);
        bad("x:(always));", 1, 10);
        bad("x:();", 1, 3);
        bad("x:any(());", 1, 7);
        bad("x:always and;", 1, 12);
        bad("x:always or;", 1, 11);
        bad("x:any(sand and);", 1, 14);
        bad("x:any(or sand);", 1, 6);
        bad("x:always not always;", 1, 9);
        bad("x:not;", 1, 5);
        bad("x:any(not);", 1, 9);
    }

    private static void firstFaultAlongTheText() {
        bad("x:deep<1000 sand;any:", 2, 7);
        bad("x:sand 1000;", 1, 2);
        bad("sand:deep<1000;", 1, 0);
        bad("x:at 1000 sand", 2, 5);
        bad("x:thick(peat and) < 1000;", 1, 16);
        bad("x:" + "(".repeat(9) + "deep<1000", 2, 10);
        bad("x:always 1000;", 1, 9);
    }

    /** "any: some LAYER is so; all: each is" */
    private static void anyAndAll() {
        holds("any(loam)", true);
        holds("any(white)", true);
        holds("any(peat)", false);
        holds("any(loam and white)", false);
        holds("all(loam or clay or sand)", true);
        holds("all(clay or sand)", false);
        holds("all(loam or clay)", false);
        holds("all(not peat)", true);
        holds("not all(clay) and not any(peat)", true);
    }

    /** "at N: that which goes from N or above to below N is there and is so" */
    private static void atADepth() {
        int[] ends = {20, 50, 60, 90};
        String[] texes = {"loam", "clay", "sand", "clay"};
        int begin = 0;
        for (int k = 0; k < 4; k++) {
            holds("at " + begin + "(" + texes[k] + ")", true);
            holds("at " + (ends[k] - 1) + "(" + texes[k] + ")", true);
            holds("at " + ends[k] + "(" + texes[k] + ")", false);
            holds("at " + (begin > 0 ? begin - 1 : 999) + "(" + texes[k] + ")", false);
            begin = ends[k];
        }
        holds("at 89(not peat)", true);
        holds("at 90(not peat)", false);
        holds("at 999(not peat)", false);
        holds("not at 90(peat)", true);
        ClodDesk d = new ClodDesk();
        Checks.key(d, "x:at 299(not clay);y:not at 300(not clay);");
        Checks.bore(d, "0-1 sand red;1-2 sand red;2-3 sand red;3-4 sand red;4-5 sand red;5-6 sand red;6-7 sand red;7-300 sand red", 0, 0);
        Checks.bore(d, "0-1 sand red;1-2 sand red;2-3 sand red;3-4 sand red;4-5 sand red;5-6 sand red;6-7 sand red;7-300 clay red", 0, 0);
        due("the eighth layer's end", d.told(0, 3), 0);
        due("behind the eighth layer", d.told(1, 3), 1);
    }

    /** "thick: the sum of all that are so"; "from: where the first that is so begins (999 without)"; "deep" */
    private static void thickFromDeep() {
        compares("thick(clay)", 60, "");
        compares("thick(loam)", 20, "");
        compares("thick(peat)", 0, "");
        compares("thick(not peat)", 90, "");
        compares("from(clay)", 20, "");
        compares("from(loam)", 0, "");
        compares("from(white)", 60, "");
        compares("from(peat)", 999, "");
        compares("deep", 90, "");
        ClodDesk d = new ClodDesk();
        Checks.key(d, "x:deep=300 and thick(red)=300 and any(cm=300) and at 299(sand) and not at 300(sand);");
        Checks.bore(d, "0-300 sand red", 0, 0);
        due("the deepest bore", d.told(0, 3), 0);
        Checks.bore(d, "0-299 sand red", 0, 0);
        due("one less", d.told(1, 3), -1);
    }

    /** "Of a LAYER: its TEX, COLOUR, whether it is mottled; its stones; cm: from where it begins to where it ends" */
    private static void ofALayer() {
        for (int t = 0; t < 6; t++) {
            for (int c = 0; c < 5; c++) {
                for (int word = 0; word < 11; word++) {
                    ClodDesk d = new ClodDesk();
                    Checks.key(d, "x:any(" + WORDS[word] + ");");
                    Checks.bore(d, "0-9 " + WORDS[t] + " " + WORDS[6 + c], 0, 0);
                    boolean is = word == t || word == 6 + c;
                    due(WORDS[t] + " " + WORDS[6 + c] + " as " + WORDS[word], d.told(0, 3), is ? 0 : -1);
                }
            }
        }
        compares("any(loam and stones", 7, ")");
        compares("any(mottled and stones", 0, ")");
        compares("any(white and stones", 0, ")");
        compares("any(loam and cm", 20, ")");
        compares("any(sand and cm", 10, ")");
        holds("thick(mottled) = 30", true);
        holds("any(mottled and loam)", false);
        holds("all(not mottled)", false);
        ClodDesk d = new ClodDesk();
        Checks.key(d, "x:any(stones=99 and cm=1);");
        Checks.bore(d, "0-1 sand red stones 99", 0, 0);
        due("most stones, least cm", d.told(0, 3), 0);
    }

    /** "E: A { or A }. A: B { and B }. B: not B": not binds most, then and, then or */
    private static void notAndOr() {
        for (int bits = 0; bits < 8; bits++) {
            boolean a = (bits & 1) != 0;
            boolean b = (bits & 2) != 0;
            boolean c = (bits & 4) != 0;
            String x = a ? "deep=90" : "deep<90";
            String y = b ? "any(clay)" : "any(peat)";
            String z = c ? "always" : "not always";
            holds(x + " or " + y + " and " + z, a || b && c);
            holds(x + " and " + y + " or " + z, a && b || c);
            holds("not " + x + " and " + y + " or not not " + z, !a && b || c);
            holds("(" + x + " or " + y + ") and " + z, (a || b) && c);
            holds("not (" + x + " and " + y + ") and not " + z, !(a && b) && !c);
            String p = a ? "clay" : "peat";
            String q = b ? "mottled" : "black";
            String r = c ? "stones<1" : "cm>99";
            holds("at 20(" + p + " or " + q + " and " + r + ")", a || b && c);
            holds("at 20(" + p + " and " + q + " or " + r + ")", a && b || c);
            holds("at 20(not " + p + " and " + q + " or not not " + r + ")", !a && b || c);
            holds("at 20((" + p + " or " + q + ") and " + r + ")", (a || b) && c);
            holds("at 20(not (" + p + " and " + q + ") and not " + r + ")", !(a && b) && !c);
        }
    }

    /** "KIND of a BORE: of the first LINE that holds of it; none, if none does" */
    private static void firstLineThatHolds() {
        ClodDesk d = new ClodDesk();
        due("without a key", Checks.boreOf(d, 's', 0, 0), 0);
        due("no kind", d.told(0, 3), -1);
        due("no line", d.told(0, 4), -1);
        Checks.key(d, "a:any(clay);b:any(peat);");
        due("no line holds", d.told(0, 3), -1);
        due("no line holds", d.told(0, 4), -1);
        Checks.key(d, "a:any(clay);b:any(sand);a:always;c:any(sand);");
        due("the first that holds", d.told(0, 4), 1);
        due("its kind", d.told(0, 3), 1);
        due("a bore told later", Checks.boreOf(d, 'p', 0, 0), 1);
        due("the last resort", d.told(1, 4), 2);
        due("a kind that came earlier", d.told(1, 3), 0);
        Checks.key(d, "");
        due("an empty key", d.told(0, 3), -1);
    }

    /** "are THE KEY from now on": nothing of the keys ahead is left, however long they were */
    private static void noneOfTheKeysAhead() {
        ClodDesk d = new ClodDesk();
        Checks.boreOf(d, 's', 0, 0);
        String[] ahead = {"x:any(clay);x:always;", "x:always;".repeat(16), "x:any(clay);y:any(clay);z:always;"};
        for (String text : ahead) {
            for (int i = 0; i < 2; i++) {
                Checks.key(d, text);
            }
            Checks.key(d, "x:any(peat);");
            due("no line holds behind " + text, d.told(0, 4), -1);
            Checks.key(d, "x:any(peat);y:any(clay);");
            due("no line holds behind " + text, d.told(0, 4), -1);
            due("kinds", d.count(3), 2);
        }
        // 96 knots of which the last one says what holds: all bores here, none there
        Checks.boreOf(d, 'c', 0, 0);
        String full = "any(sand) or ".repeat(31) + "not any(sand);";
        for (int i = 0; i < 4; i++) {
            due("a full key", Checks.key(d, "x:" + full), 1);
            due("96 knots", d.count(5), 96);
            due("sand", d.told(0, 3), 0);
            due("clay", d.told(1, 3), 0);
            due("another full key", Checks.key(d, "x:" + full.replace(" or ", " and ")), 1);
            due("not sand", d.told(0, 3), -1);
            due("not clay", d.told(1, 3), -1);
        }
    }
}

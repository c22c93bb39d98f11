import java.util.ArrayList;
import java.util.List;
import java.util.Random;

/** Keys and bores by chance: most of them whole, some with a slip in them. */
final class RandomTexts {
    private static final String[] COMPARES = {"<", "<=", "=", ">=", ">"};
    private static final String[] SLIPS = {"", " ", "(", ")", ";", ":", "-", "<", "=", ">=", "5", "1000", "301", "100", "0",
        "sand", "red", "mottled", "stones", "cm", "and", "or", "not", "any", "all", "at", "always", "deep", "thick", "from",
        "x", "verylongname", "eightlet", "\n", "\t", "A", "\u00e9", "\u0000", ",", "00000000000000000007", "99999999999999999999"};
    private static final String[] NAMES = {"podzol", "gley", "rest", "a", "bog", "ranker", "loess", "eightlet", "k", "zz"};

    private final Random random;

    RandomTexts(Random random) {
        this.random = random;
    }

    private String pick(String... words) {
        return words[random.nextInt(words.length)];
    }

    private boolean often(int of100) {
        return random.nextInt(100) < of100;
    }

    private String compare(int most) {
        return " " + pick(COMPARES) + pick("", " ") + random.nextInt(most);
    }

    private String tex() {
        return PlainTexts.TEX.get(random.nextInt(6));
    }

    private String colour() {
        return PlainTexts.COLOUR.get(random.nextInt(5));
    }

    String bore() {
        StringBuilder text = new StringBuilder();
        int layers = often(5) ? 8 + random.nextInt(2) : 1 + random.nextInt(4);
        int depth = 0;
        for (int i = 0; i < layers; i++) {
            int end = depth + 1 + random.nextInt(often(3) ? 301 : 36);
            text.append(i == 0 ? "" : pick(";", " ; ", ";\n")).append(depth).append(pick("-", " - ")).append(end);
            text.append(pick(" ", "")).append(tex()).append(' ').append(colour());
            text.append(often(35) ? " mottled" : "");
            text.append(often(35) ? pick(" stones ", " stones") + random.nextInt(often(5) ? 105 : 30) : "");
            depth = often(1) ? end + 1 : end;
        }
        return slipped(text.append(pick("", "", ";", " ; ")).toString(), 12);
    }

    String key() {
        int lines = often(6) ? 15 + random.nextInt(3) : random.nextInt(7);
        StringBuilder text = new StringBuilder();
        for (int i = 0; i < lines && text.length() < 700; i++) {
            text.append(pick(NAMES)).append(pick(":", " : ", ": ")).append(lines > 9 ? "always" : ofBore(2 + random.nextInt(3)));
            text.append(pick(";", "; ", " ;\n"));
        }
        if (often(60)) {
            text.append("rest: always;");
        }
        return cut(slipped(text.toString(), 12));
    }

    /** Near the most knots and brackets that a text may have. */
    String crowdedKey() {
        List<String> parts = new ArrayList<>();
        int knots = 90 + random.nextInt(10);
        for (int i = 0; i < knots / 4; i++) {
            parts.add(pick("any(" + tex() + ")", "all(not " + colour() + ")", "deep>" + random.nextInt(60), "not not always"));
        }
        String inside = String.join(pick(" or ", " and "), parts);
        int open = 5 + random.nextInt(5);
        return cut("x:" + "(".repeat(open) + inside + ")".repeat(open) + ";" + pick("", "y:always;", "y:not always;"));
    }

    private static String cut(String text) {
        return text.length() > 780 ? text.substring(0, 780) : text;
    }

    private String slipped(String text, int of100) {
        if (!often(of100) || text.isEmpty()) {
            return text;
        }
        int at = random.nextInt(text.length() + 1);
        int behind = Math.min(text.length(), at + random.nextInt(4));
        return text.substring(0, at) + pick(SLIPS) + text.substring(behind);
    }

    private String ofBore(int depth) {
        int choice = random.nextInt(depth <= 0 ? 6 : 11);
        switch (choice) {
            case 0: return "any(" + ofLayer(depth) + ")";
            case 1: return "all (" + ofLayer(depth) + ")";
            case 2: return "at " + random.nextInt(60) + "(" + ofLayer(depth) + ")";
            case 3: return "thick(" + ofLayer(depth) + ")" + compare(60);
            case 4: return "from(" + ofLayer(depth) + ")" + compare(often(20) ? 1002 : 60);
            case 5: return "deep" + compare(90);
            case 6: return "not " + ofBore(depth - 1);
            case 7: return "(" + ofBore(depth - 1) + ")";
            case 8: return ofBore(depth - 1) + " and " + ofBore(depth - 1);
            case 9: return ofBore(depth - 1) + " or " + ofBore(depth - 1);
            default: return "always";
        }
    }

    private String ofLayer(int depth) {
        int choice = random.nextInt(depth <= 0 ? 5 : 9);
        switch (choice) {
            case 0: return tex();
            case 1: return colour();
            case 2: return "mottled";
            case 3: return "stones" + compare(30);
            case 4: return "cm" + compare(40);
            case 5: return "not " + ofLayer(depth - 1);
            case 6: return "(" + ofLayer(depth - 1) + ")";
            case 7: return ofLayer(depth - 1) + " and " + ofLayer(depth - 1);
            default: return ofLayer(depth - 1) + " or " + ofLayer(depth - 1);
        }
    }
}

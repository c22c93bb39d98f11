import java.util.NoSuchElementException;

/** A desk for what lies under fields; ../shared/DOC.md says what each call promises. */
public final class ClodDesk {
    public static final int NONE = -1;

    private static final int REFUSED = -2;
    private static final int NO_HANDS = -1000000;
    private static final int TAPE_ROOM = 800;
    private static final int FEED_BYTES = 20;
    private static final int MAX_SIDE = 8;
    private static final int MAX_CELLS = 64;
    private static final int MAX_NOTES = 60;
    private static final int MAX_LAYERS = 8;
    private static final int LAYER_FIELDS = 6;
    private static final int MAX_KINDS = 8;
    private static final int MAX_HANDS = 3;
    private static final int MAX_LETTERS = 8;
    private static final int READS_WHOLE = 16;
    private static final int MAX_PRICE = 9999;
    private static final int OLD_CLASSES = 6;

    private static final int WRONG_TOKEN = 1;
    private static final int TOO_MUCH = 2;
    private static final int WRONG_DEPTH = 3;

    /** The words of both languages; a word's number is its place here, as the constants below say. */
    private static final String WORDS =
        "sand silt loam clay peat chalk black brown red grey white mottled stones cm or and not always any all at thick from deep";
    private static final int WORD_COUNT = 24;
    private static final int FIRST_TEX = 0;
    private static final int TEXES = 6;
    private static final int FIRST_COLOUR = 6;
    private static final int COLOURS = 5;
    private static final int MOTTLED = 11;
    private static final int STONES = 12;
    private static final int CM = 13;
    private static final int OR = 14;
    private static final int AND = 15;
    private static final int NOT = 16;
    private static final int ALWAYS = 17;
    private static final int ANY = 18;
    private static final int ALL = 19;
    private static final int AT = 20;
    private static final int THICK = 21;
    private static final int FROM = 22;
    private static final int DEEP = 23;

    private final int[] tape = new int[TAPE_ROOM];
    private int fed;
    private final Scanner scanner = new Scanner(tape);
    private final KeyReader keyReader = new KeyReader(scanner);
    private Key currentKey = new Key();
    private int lastFault;
    private int lastPlace = NONE;
    private final Land field = new Land();
    private final Book book = new Book();
    private final Chances chances = new Chances(field, book);
    private final Drawer drawer = new Drawer(field, chances);
    private final Planner planner = new Planner(field);
    private final OldMap oldMap = new OldMap(field, book, chances);
    private final Agreement agreement = new Agreement(book);
    private final int[] values = new int[MAX_KINDS];

    public ClodDesk() {
    }

    public int feed(int a, int b, int c, int d, int e) {
        if (fed + FEED_BYTES > TAPE_ROOM) {
            return NONE;
        }
        putBytes(a);
        putBytes(b);
        putBytes(c);
        putBytes(d);
        putBytes(e);
        return fed;
    }

    public int key(int n) {
        if (n < 0 || n > fed) {
            return REFUSED;
        }
        scanner.start(n);
        boolean good = keyReader.readKey();
        keepFault();
        if (!good) {
            return NONE;
        }
        currentKey = keyReader.handOver(currentKey);
        chances.resetReads(currentKey.kinds);
        for (int k = 0; k < MAX_KINDS; k++) {
            values[k] = 0;
        }
        book.judgeAll(currentKey);
        return currentKey.lines;
    }

    public int bore(int n, int hand, int cell) {
        if (n < 0 || n > fed || !isHand(hand) || !field.hasCell(cell) || book.size >= MAX_NOTES) {
            return REFUSED;
        }
        Note draft = book.notes[book.size];
        scanner.start(n);
        boolean good = draft.readFrom(scanner);
        keepFault();
        if (!good) {
            return NONE;
        }
        draft.target = NONE;
        draft.hand = hand;
        draft.cell = cell;
        draft.judge(currentKey);
        book.size++;
        return book.size - 1;
    }

    public int fault(int what) {
        return what == 0 ? lastFault : what == 1 ? lastPlace : NONE;
    }

    public int strike(int note) {
        if (!book.hasNote(note) || book.size >= MAX_NOTES) {
            return NONE;
        }
        book.notes[book.size].target = note;
        book.size++;
        return book.size - 1;
    }

    public boolean land(int w, int h) {
        if (w < 2 || w > MAX_SIDE || h < 2 || h > MAX_SIDE) {
            return false;
        }
        field.renew(w, h);
        book.size = 0;
        return true;
    }

    public boolean ground(int cell, int what, int v) {
        return field.hasCell(cell) && field.put(cell, what, v);
    }

    public boolean bounds(int what, int low, int high) {
        return field.putBounds(what, low, high);
    }

    public boolean price(int what, int n) {
        if (what < 0 || what > 1 || n < 0 || n > MAX_PRICE) {
            return false;
        }
        if (what == 0) {
            drawer.border = n;
        } else {
            drawer.bend = n;
        }
        return true;
    }

    public boolean reads(int hand, int kind, int k01, int k23, int k45, int k67) {
        if (!isHand(hand) || !isKind(kind)) {
            return false;
        }
        chances.noteRow(0, k01);
        chances.noteRow(2, k23);
        chances.noteRow(4, k45);
        chances.noteRow(6, k67);
        return chances.takeRow(hand, kind);
    }

    public boolean value(int kind, int n) {
        if (!isKind(kind) || n < 0 || n > MAX_PRICE) {
            return false;
        }
        values[kind] = n;
        return true;
    }

    public int layer(int note, int k, int what) {
        if (!book.hasBore(note) || what < 0 || what >= LAYER_FIELDS) {
            return NONE;
        }
        Note told = book.notes[note];
        return k < 0 || k >= told.layers ? NONE : told.get(k, what);
    }

    public int told(int note, int what) {
        if (!book.hasBore(note)) {
            return REFUSED;
        }
        Note bore = book.notes[note];
        switch (what) {
            case 0: return bore.hand;
            case 1: return bore.cell;
            case 2: return bore.layers;
            case 3: return bore.kind;
            case 4: return bore.line;
            default: return REFUSED;
        }
    }

    public int look(int cell, int what) throws IndexOutOfBoundsException, NoSuchElementException {
        if (!field.hasCell(cell)) {
            throw new IndexOutOfBoundsException("no such cell");
        }
        if (what < 0 || what >= 3 + Land.ROWS) {
            throw new NoSuchElementException("no such what");
        }
        switch (what) {
            case 0: return field.slope[cell];
            case 1: return field.steep[cell];
            case 2: return field.feel[cell];
            default: return field.rows[what - 3][cell];
        }
    }

    public int like(int a, int b) {
        return field.hasCell(a) && field.hasCell(b) ? field.likeness(a, b) : NONE;
    }

    public int chance(int n, int cell, int kind, int what) {
        boolean wrong = !book.knows(n) || !field.hasCell(cell) || what < 0 || what > 4;
        if (wrong || currentKey.kinds == 0 || (what < 2 && !isKind(kind))) {
            return NONE;
        }
        book.gather(n);
        chances.weigh(cell, NONE);
        switch (what) {
            case 0: return chances.weight[kind];
            case 1: return chances.partsOf(kind);
            case 2: return chances.best;
            case 3: return chances.doubt();
            default: return chances.total;
        }
    }

    public int leftOut(int n, int what) {
        if (!book.knows(n) || what < 0 || what > 2) {
            return NONE;
        }
        book.gather(n);
        return what == 0 ? book.counted : what == 1 ? countRight() : sumSaid();
    }

    public int draw(int n, boolean column, int at) {
        int lines = column ? field.w : field.h;
        if (!book.knows(n) || at < 0 || at >= lines || currentKey.kinds == 0) {
            return NONE;
        }
        book.gather(n);
        return drawer.drawLine(column, at);
    }

    public int drawn(int k) {
        return k < 0 || k >= drawer.size ? NONE : drawer.line[k];
    }

    public int plan(int m, int days, int from) {
        boolean wrong = m < 1 || m > Planner.MAX_BORES || days < 1 || days > Planner.MAX_DAYS;
        if (wrong || !field.hasCell(from) || currentKey.kinds == 0) {
            return NONE;
        }
        book.gather(book.size);
        planner.weighGains(chances, book);
        return planner.findPlan(m, days, from);
    }

    public int planned(int what, int k) {
        if (what == 1) {
            return planner.days;
        }
        return what != 0 || k < 0 || k >= planner.size ? NONE : planner.cells[k];
    }

    public int turned(int oldClass, int what) {
        if (oldClass < 0 || oldClass >= OLD_CLASSES || what < 0 || what > MAX_KINDS) {
            return REFUSED;
        }
        book.gather(book.size);
        oldMap.tallyBores();
        return what == MAX_KINDS ? oldMap.turnedTo[oldClass] : oldMap.tally[oldClass][what];
    }

    public int maps(int what, int x) {
        if (what < 0 || what > 2 || (what > 0 && (x < 0 || x >= field.w - 1))) {
            return NONE;
        }
        if (currentKey.kinds == 0) {
            return 0;
        }
        book.gather(book.size);
        oldMap.tallyBores();
        return what == 0 ? oldMap.countAgreeing() : what == 1 ? oldMap.seamOfOld(x) : oldMap.seamOfBest(x);
    }

    public int worth(int what, int p) {
        if (what < 0 || what > 2 || (what == 2 && (p < 0 || p > 1000)) || currentKey.kinds == 0) {
            return NONE;
        }
        book.gather(book.size);
        int sum = 0;
        for (int cell = 0; cell < field.cells; cell++) {
            chances.weigh(cell, NONE);
            sum += what == 0 ? values[chances.best] : what == 1 ? fairValue() : isUnsure(p) ? 1 : 0;
        }
        return sum;
    }

    public int hands(int a, int b, int what) {
        if (!isHand(a) || !isHand(b) || a == b || what < 0 || what > 4) {
            return NO_HANDS;
        }
        book.gather(book.size);
        agreement.compare(a, b);
        switch (what) {
            case 0: return agreement.many;
            case 1: return agreement.same;
            case 2: return agreement.byChance;
            case 3: return agreement.upper;
            default: return agreement.lower;
        }
    }

    public int count(int what) {
        switch (what) {
            case 0: return field.w;
            case 1: return field.h;
            case 2: return book.size;
            case 3: return currentKey.kinds;
            case 4: return currentKey.lines;
            case 5: return currentKey.knots;
            case 6:
                book.gather(book.size);
                return book.counted;
            default: return NONE;
        }
    }

    private void putBytes(int number) {
        for (int shift = 24; shift >= 0 && fed < TAPE_ROOM; shift -= 8) {
            tape[fed] = (number >> shift) & 255;
            fed++;
        }
    }

    /** What was read is used up, good or not. */
    private void keepFault() {
        lastFault = scanner.fault;
        lastPlace = scanner.place;
        fed = 0;
    }

    private boolean isKind(int kind) {
        return kind >= 0 && kind < currentKey.kinds;
    }

    private static boolean isHand(int hand) {
        return hand >= 0 && hand < MAX_HANDS;
    }

    private int countRight() {
        int right = 0;
        for (int i = 0; i < book.counted; i++) {
            Note bore = book.notes[book.counting[i]];
            chances.weigh(bore.cell, i);
            if (chances.best == bore.kind) {
                right++;
            }
        }
        return right;
    }

    private int sumSaid() {
        int said = 0;
        for (int i = 0; i < book.counted; i++) {
            chances.weigh(book.notes[book.counting[i]].cell, i);
            said += chances.partsOf(chances.best);
        }
        return said;
    }

    private int fairValue() {
        long sum = 0;
        for (int k = 0; k < currentKey.kinds; k++) {
            sum += (long) values[k] * chances.weight[k];
        }
        return chances.total > 0 ? (int) (sum / chances.total) : 0;
    }

    private boolean isUnsure(int p) {
        for (int k = 0; k < currentKey.kinds; k++) {
            if (values[k] != values[chances.best] && chances.partsOf(k) >= p) {
                return true;
            }
        }
        return false;
    }

    /** Cuts the first bytes of the tape into tokens, one at a time, and keeps the fault that ends the reading. */
    private static final class Scanner {
        static final int END = 0;
        static final int NUMBER = 1;
        static final int WORD = 2;
        static final int SIGN = 3;
        static final int NEW_WORD = -1;
        static final int LONG_WORD = -2;
        /** Added to the byte of < or > that has its = right behind. */
        static final int WITH_EQUAL = 256;
        /** Numbers stop growing here, so that no row of digits can wrap round into the allowed ones. */
        private static final int BIG_NUMBER = 1000;

        private final int[] text;
        private final long[] words = new long[WORD_COUNT];
        private int length;
        private int next;
        int sort;
        int at;
        int value;
        long letters;
        int fault;
        int place = NONE;

        Scanner(int[] text) {
            this.text = text;
            int word = 0;
            for (int i = 0; i < WORDS.length() && word < WORD_COUNT; i++) {
                char c = WORDS.charAt(i);
                if (c == ' ') {
                    word++;
                } else {
                    words[word] = joined(words[word], c);
                }
            }
        }

        void start(int n) {
            length = Math.min(n, text.length);
            next = 0;
            fault = 0;
            place = NONE;
            step();
        }

        void step() {
            while (next < length && (text[next] == ' ' || text[next] == '\n')) {
                next++;
            }
            at = next;
            if (next >= length) {
                sort = END;
            } else if (isDigit(text[next])) {
                cutNumber();
            } else if (isLetter(text[next])) {
                cutWord();
            } else {
                cutSign();
            }
        }

        boolean isSign(int sign) {
            return sort == SIGN && value == sign;
        }

        boolean isWord(int first, int many) {
            return sort == WORD && value >= first && value < first + many;
        }

        /** Always false, so that a reader can answer with it. */
        boolean refuse(int why) {
            fault = why;
            place = at;
            return false;
        }

        boolean takeSign(int sign) {
            if (!isSign(sign)) {
                return refuse(WRONG_TOKEN);
            }
            step();
            return true;
        }

        /** Stays on the number, for a reader that has more to ask of it at its place. */
        boolean isNumberTo(int most) {
            if (sort != NUMBER) {
                return refuse(WRONG_TOKEN);
            }
            return value <= most || refuse(TOO_MUCH);
        }

        private void cutNumber() {
            sort = NUMBER;
            value = 0;
            while (next < length && isDigit(text[next])) {
                value = Math.min(value * 10 + text[next] - '0', BIG_NUMBER);
                next++;
            }
        }

        private void cutWord() {
            sort = WORD;
            letters = 0;
            while (next < length && isLetter(text[next])) {
                if (next - at < MAX_LETTERS) {
                    letters = joined(letters, text[next]);
                }
                next++;
            }
            value = next - at > MAX_LETTERS ? LONG_WORD : wordNumber();
        }

        private int wordNumber() {
            for (int i = 0; i < WORD_COUNT; i++) {
                if (words[i] == letters) {
                    return i;
                }
            }
            return NEW_WORD;
        }

        private void cutSign() {
            sort = SIGN;
            value = text[next];
            next++;
            if ((value == '<' || value == '>') && next < length && text[next] == '=') {
                value += WITH_EQUAL;
                next++;
            }
        }

        private static boolean isDigit(int c) {
            return c >= '0' && c <= '9';
        }

        private static boolean isLetter(int c) {
            return c >= 'a' && c <= 'z';
        }

        /** Five bits a letter, so that words of eight letters compare as one number. */
        private static long joined(long letters, int c) {
            return letters * 32 + (c - 'a' + 1);
        }
    }

    /** One note of the book: a strike if it has a target, else a bore. */
    private static final class Note {
        static final int BEGIN = 0;
        static final int ENDING = 1;
        static final int TEX = 2;
        static final int COLOUR = 3;
        static final int IS_MOTTLED = 4;
        static final int STONE_PARTS = 5;
        private static final int MAX_DEPTH = 300;
        private static final int MAX_STONES = 99;

        int target = NONE;
        int hand;
        int cell;
        int layers;
        int line = NONE;
        int kind = NONE;
        private final int[] fields = new int[MAX_LAYERS * LAYER_FIELDS];

        int get(int k, int what) {
            return fields[k * LAYER_FIELDS + what];
        }

        void set(int k, int what, int v) {
            fields[k * LAYER_FIELDS + what] = v;
        }

        int depth() {
            return layers > 0 ? get(layers - 1, ENDING) : 0;
        }

        int allLayers() {
            return (1 << layers) - 1;
        }

        void judge(Key key) {
            line = key.firstLineOf(this);
            kind = line == NONE ? NONE : key.kindOfLine[line];
        }

        /** The layers as the text tells them; false with a fault, and what stands here then is free to be written over. */
        boolean readFrom(Scanner scanner) {
            layers = 0;
            for (int k = 0; k < MAX_LAYERS; k++) {
                if (!readDepths(scanner, k) || !readLook(scanner, k)) {
                    return false;
                }
                layers = k + 1;
                if (scanner.sort == Scanner.END) {
                    return true;
                }
                if (!scanner.takeSign(';')) {
                    return false;
                }
                if (scanner.sort == Scanner.END) {
                    return true;
                }
            }
            return scanner.refuse(scanner.sort == Scanner.NUMBER ? TOO_MUCH : WRONG_TOKEN);
        }

        private boolean readDepths(Scanner scanner, int k) {
            int due = depth();
            if (!scanner.isNumberTo(MAX_DEPTH)) {
                return false;
            }
            if (scanner.value != due) {
                return scanner.refuse(WRONG_DEPTH);
            }
            set(k, BEGIN, due);
            scanner.step();
            if (!scanner.takeSign('-') || !scanner.isNumberTo(MAX_DEPTH)) {
                return false;
            }
            if (scanner.value <= due) {
                return scanner.refuse(WRONG_DEPTH);
            }
            set(k, ENDING, scanner.value);
            scanner.step();
            return true;
        }

        private boolean readLook(Scanner scanner, int k) {
            if (!readWord(scanner, k, TEX, FIRST_TEX, TEXES) || !readWord(scanner, k, COLOUR, FIRST_COLOUR, COLOURS)) {
                return false;
            }
            boolean mottled = scanner.isWord(MOTTLED, 1);
            set(k, IS_MOTTLED, mottled ? 1 : 0);
            if (mottled) {
                scanner.step();
            }
            return readStones(scanner, k);
        }

        private boolean readWord(Scanner scanner, int k, int what, int first, int many) {
            if (!scanner.isWord(first, many)) {
                return scanner.refuse(WRONG_TOKEN);
            }
            set(k, what, scanner.value - first);
            scanner.step();
            return true;
        }

        private boolean readStones(Scanner scanner, int k) {
            set(k, STONE_PARTS, 0);
            if (!scanner.isWord(STONES, 1)) {
                return true;
            }
            scanner.step();
            if (!scanner.isNumberTo(MAX_STONES)) {
                return false;
            }
            set(k, STONE_PARTS, scanner.value);
            scanner.step();
            return true;
        }
    }

    /**
     * The key of kinds: its lines one behind the other, each knot behind what it joins. A value is a set of
     * layers, one bit each; what holds of a whole bore is all of its layers, so that not, and, or serve both.
     */
    private static final class Key {
        static final int MAX_LINES = 16;
        static final int MAX_KNOTS = 96;
        private static final int NOWHERE = 999;

        private final int[] word = new int[MAX_KNOTS];
        private final int[] sign = new int[MAX_KNOTS];
        private final int[] number = new int[MAX_KNOTS];
        private int size;
        private final int[] lineEnd = new int[MAX_LINES];
        final int[] kindOfLine = new int[MAX_LINES];
        private final long[] names = new long[MAX_KINDS];
        private final int[] stack = new int[MAX_KNOTS];
        int lines;
        int kinds;
        int knots;

        void clear() {
            size = 0;
            lines = 0;
            kinds = 0;
            knots = 0;
        }

        /** The number of a kind's name, a new one if it is new; NONE if there is no room for it. */
        int numberOf(long name) {
            for (int k = 0; k < kinds; k++) {
                if (names[k] == name) {
                    return k;
                }
            }
            if (kinds >= MAX_KINDS) {
                return NONE;
            }
            names[kinds] = name;
            kinds++;
            return kinds - 1;
        }

        void emit(int newWord, int newSign, int newNumber) {
            if (size < MAX_KNOTS) {
                word[size] = newWord;
                sign[size] = newSign;
                number[size] = newNumber;
                size++;
            }
        }

        void endLine(int kind) {
            if (lines < MAX_LINES) {
                lineEnd[lines] = size;
                kindOfLine[lines] = kind;
                lines++;
            }
        }

        int firstLineOf(Note bore) {
            int begin = 0;
            for (int line = 0; line < lines; line++) {
                if (holds(bore, begin, lineEnd[line])) {
                    return line;
                }
                begin = lineEnd[line];
            }
            return NONE;
        }

        private boolean holds(Note bore, int begin, int end) {
            int top = 0;
            for (int i = begin; i < end; i++) {
                if (word[i] == AND || word[i] == OR) {
                    if (top < 2) {
                        return false;
                    }
                    top--;
                    stack[top - 1] = word[i] == AND ? stack[top - 1] & stack[top] : stack[top - 1] | stack[top];
                } else if (word[i] == NOT || (word[i] >= ANY && word[i] <= FROM)) {
                    if (top < 1) {
                        return false;
                    }
                    stack[top - 1] = changed(bore, i, stack[top - 1]);
                } else if (top < MAX_KNOTS) {
                    stack[top] = leaf(bore, i);
                    top++;
                }
            }
            return top > 0 && stack[top - 1] != 0;
        }

        private int leaf(Note bore, int i) {
            int all = bore.allLayers();
            if (word[i] == ALWAYS) {
                return all;
            }
            if (word[i] == DEEP) {
                return compares(bore.depth(), i) ? all : 0;
            }
            int found = 0;
            for (int k = 0; k < bore.layers; k++) {
                if (isSo(bore, k, i)) {
                    found |= 1 << k;
                }
            }
            return found;
        }

        private boolean isSo(Note bore, int k, int i) {
            switch (word[i]) {
                case MOTTLED: return bore.get(k, Note.IS_MOTTLED) == 1;
                case STONES: return compares(bore.get(k, Note.STONE_PARTS), i);
                case CM: return compares(bore.get(k, Note.ENDING) - bore.get(k, Note.BEGIN), i);
                default:
                    return word[i] < FIRST_COLOUR
                        ? bore.get(k, Note.TEX) == word[i] - FIRST_TEX
                        : bore.get(k, Note.COLOUR) == word[i] - FIRST_COLOUR;
            }
        }

        private int changed(Note bore, int i, int set) {
            int all = bore.allLayers();
            boolean so;
            switch (word[i]) {
                case NOT: return all & ~set;
                case ANY: so = set != 0; break;
                case ALL: so = set == all; break;
                case AT: so = isAt(bore, number[i], set); break;
                case THICK: so = compares(thickness(bore, set), i); break;
                default: so = compares(firstBegin(bore, set), i); break;
            }
            return so ? all : 0;
        }

        private static boolean isAt(Note bore, int depth, int set) {
            for (int k = 0; k < bore.layers; k++) {
                if (bore.get(k, Note.BEGIN) <= depth && depth < bore.get(k, Note.ENDING)) {
                    return (set & (1 << k)) != 0;
                }
            }
            return false;
        }

        private static int thickness(Note bore, int set) {
            int sum = 0;
            for (int k = 0; k < bore.layers; k++) {
                if ((set & (1 << k)) != 0) {
                    sum += bore.get(k, Note.ENDING) - bore.get(k, Note.BEGIN);
                }
            }
            return sum;
        }

        private static int firstBegin(Note bore, int set) {
            for (int k = 0; k < bore.layers; k++) {
                if ((set & (1 << k)) != 0) {
                    return bore.get(k, Note.BEGIN);
                }
            }
            return NOWHERE;
        }

        private boolean compares(int found, int i) {
            switch (sign[i]) {
                case '<': return found < number[i];
                case '<' + Scanner.WITH_EQUAL: return found <= number[i];
                case '=': return found == number[i];
                case '>' + Scanner.WITH_EQUAL: return found >= number[i];
                default: return found > number[i];
            }
        }
    }

    /** Reads a key's text; bores and layers share the forms of or, and, not and brackets. */
    private static final class KeyReader {
        private static final int MAX_OPEN = 8;
        private static final int MAX_NUMBER = 999;

        private final Scanner scanner;
        private Key key = new Key();
        private int open;

        KeyReader(Scanner scanner) {
            this.scanner = scanner;
        }

        /** The key that was read; the old one is written over by the next reading. */
        Key handOver(Key old) {
            Key read = key;
            key = old;
            return read;
        }

        boolean readKey() {
            key.clear();
            open = 0;
            for (int line = 0; line <= Key.MAX_LINES; line++) {
                if (scanner.sort == Scanner.END) {
                    return true;
                }
                int kind = readKind();
                if (kind == NONE || !scanner.takeSign(':') || !readEither(false) || !scanner.takeSign(';')) {
                    return false;
                }
                key.endLine(kind);
            }
            return false;
        }

        private int readKind() {
            int kind = NONE;
            if (scanner.sort != Scanner.WORD || scanner.value != Scanner.NEW_WORD) {
                scanner.refuse(WRONG_TOKEN);
                return NONE;
            }
            if (key.lines < Key.MAX_LINES) {
                kind = key.numberOf(scanner.letters);
            }
            if (kind == NONE) {
                scanner.refuse(TOO_MUCH);
                return NONE;
            }
            scanner.step();
            return kind;
        }

        private boolean readEither(boolean ofLayer) {
            if (!readBoth(ofLayer)) {
                return false;
            }
            for (int i = 0; i < Key.MAX_KNOTS && scanner.isWord(OR, 1); i++) {
                if (!takeKnot() || !readBoth(ofLayer)) {
                    return false;
                }
                key.emit(OR, 0, 0);
            }
            return true;
        }

        private boolean readBoth(boolean ofLayer) {
            if (!readMaybeNot(ofLayer)) {
                return false;
            }
            for (int i = 0; i < Key.MAX_KNOTS && scanner.isWord(AND, 1); i++) {
                if (!takeKnot() || !readMaybeNot(ofLayer)) {
                    return false;
                }
                key.emit(AND, 0, 0);
            }
            return true;
        }

        /** Counts the nots in a row instead of going a level deeper for each. */
        private boolean readMaybeNot(boolean ofLayer) {
            int nots = 0;
            while (nots <= Key.MAX_KNOTS && scanner.isWord(NOT, 1)) {
                if (!takeKnot()) {
                    return false;
                }
                nots++;
            }
            boolean good = scanner.isSign('(') ? readBracket(ofLayer) : ofLayer ? readOfLayer() : readOfBore();
            if (good && nots % 2 == 1) {
                key.emit(NOT, 0, 0);
            }
            return good;
        }

        private boolean readBracket(boolean ofLayer) {
            if (scanner.isSign('(') && open >= MAX_OPEN) {
                return scanner.refuse(TOO_MUCH);
            }
            if (!scanner.takeSign('(')) {
                return false;
            }
            open++;
            boolean good = readEither(ofLayer) && scanner.takeSign(')');
            open--;
            return good;
        }

        private boolean readOfLayer() {
            boolean compared = scanner.isWord(STONES, 1) || scanner.isWord(CM, 1);
            if (!compared && !scanner.isWord(FIRST_TEX, MOTTLED + 1)) {
                return scanner.refuse(WRONG_TOKEN);
            }
            int word = scanner.value;
            if (!takeKnot()) {
                return false;
            }
            if (compared) {
                return readCompare(word);
            }
            key.emit(word, 0, 0);
            return true;
        }

        private boolean readOfBore() {
            if (!scanner.isWord(ALWAYS, DEEP - ALWAYS + 1)) {
                return scanner.refuse(WRONG_TOKEN);
            }
            int word = scanner.value;
            int depth = 0;
            if (!takeKnot()) {
                return false;
            }
            if (word == AT) {
                if (!scanner.isNumberTo(MAX_NUMBER)) {
                    return false;
                }
                depth = scanner.value;
                scanner.step();
            }
            if (word != ALWAYS && word != DEEP && !readBracket(true)) {
                return false;
            }
            if (word == THICK || word == FROM || word == DEEP) {
                return readCompare(word);
            }
            key.emit(word, 0, depth);
            return true;
        }

        private boolean readCompare(int word) {
            int sign = scanner.value;
            boolean plain = scanner.isSign('<') || scanner.isSign('=') || scanner.isSign('>');
            if (!plain && !scanner.isSign('<' + Scanner.WITH_EQUAL) && !scanner.isSign('>' + Scanner.WITH_EQUAL)) {
                return scanner.refuse(WRONG_TOKEN);
            }
            scanner.step();
            if (!scanner.isNumberTo(MAX_NUMBER)) {
                return false;
            }
            key.emit(word, sign, scanner.value);
            scanner.step();
            return true;
        }

        private boolean takeKnot() {
            if (key.knots >= Key.MAX_KNOTS) {
                return scanner.refuse(TOO_MUCH);
            }
            key.knots++;
            scanner.step();
            return true;
        }
    }

    /** The cells; slope, steep and feel are kept in line with each change, as they are asked for far more often. */
    private static final class Land {
        static final int HEIGHT = 0;
        static final int ROCK = 1;
        static final int FELT = 2;
        static final int WORTH = 3;
        static final int OLD_CLASS = 4;
        static final int ROWS = 5;
        private static final int[] LEAST = {0, 0, NONE, 0, NONE};
        private static final int[] MOST = {999, 3, 99, 99, 5};
        private static final int[] AT_FIRST = {0, 0, NONE, 1, NONE};

        int w;
        int h;
        int cells;
        final int[][] rows = new int[ROWS][MAX_CELLS];
        private final int[] x = new int[MAX_CELLS];
        private final int[] y = new int[MAX_CELLS];
        final int[] slope = new int[MAX_CELLS];
        final int[] steep = new int[MAX_CELLS];
        final int[] feel = new int[MAX_CELLS];
        int steepLow = 5;
        private int steepHigh = 20;
        private int feelLow = 30;
        private int feelHigh = 60;

        Land() {
            renew(4, 4);
        }

        void renew(int newW, int newH) {
            w = newW;
            h = newH;
            cells = w * h;
            for (int row = 0; row < h; row++) {
                for (int column = 0; column < w; column++) {
                    x[row * w + column] = column;
                    y[row * w + column] = row;
                }
            }
            for (int what = 0; what < ROWS; what++) {
                for (int cell = 0; cell < cells; cell++) {
                    rows[what][cell] = AT_FIRST[what];
                }
            }
            reckon();
        }

        boolean hasCell(int cell) {
            return cell >= 0 && cell < cells;
        }

        boolean put(int cell, int what, int v) {
            if (what < 0 || what >= ROWS || v < LEAST[what] || v > MOST[what]) {
                return false;
            }
            rows[what][cell] = v;
            reckon();
            return true;
        }

        boolean putBounds(int what, int low, int high) {
            if (what < 0 || what > 1 || low < 1 || low >= high || high > (what == 0 ? 999 : 99)) {
                return false;
            }
            if (what == 0) {
                steepLow = low;
                steepHigh = high;
            } else {
                feelLow = low;
                feelHigh = high;
            }
            reckon();
            return true;
        }

        int far(int a, int b) {
            return Math.max(Math.abs(x[a] - x[b]), Math.abs(y[a] - y[b]));
        }

        int steps(int a, int b) {
            return Math.abs(x[a] - x[b]) + Math.abs(y[a] - y[b]);
        }

        int likeness(int a, int b) {
            int sum = rows[ROCK][a] == rows[ROCK][b] ? 4 : 0;
            sum += steep[a] == steep[b] ? 2 : 0;
            sum += feel[a] != NONE && feel[a] == feel[b] ? 2 : 0;
            return sum + Math.max(0, 6 - far(a, b));
        }

        int heightGap(int a, int b) {
            return Math.abs(rows[HEIGHT][a] - rows[HEIGHT][b]);
        }

        private void reckon() {
            for (int cell = 0; cell < cells; cell++) {
                slope[cell] = slopeOf(cell);
                steep[cell] = stepOf(slope[cell], steepLow, steepHigh);
                feel[cell] = rows[FELT][cell] == NONE ? NONE : stepOf(rows[FELT][cell], feelLow, feelHigh);
            }
        }

        private int slopeOf(int cell) {
            int greatest = x[cell] > 0 ? heightGap(cell, cell - 1) : 0;
            greatest = Math.max(greatest, x[cell] < w - 1 ? heightGap(cell, cell + 1) : 0);
            greatest = Math.max(greatest, cell >= w ? heightGap(cell, cell - w) : 0);
            return Math.max(greatest, cell + w < cells ? heightGap(cell, cell + w) : 0);
        }

        private static int stepOf(int v, int low, int high) {
            return v < low ? 0 : v < high ? 1 : 2;
        }
    }

    /** The notes in their order, and those of them that count as known by some number of notes. */
    private static final class Book {
        final Note[] notes = new Note[MAX_NOTES];
        int size;
        final int[] counting = new int[MAX_NOTES];
        int counted;
        private final boolean[] struck = new boolean[MAX_NOTES];

        Book() {
            for (int i = 0; i < MAX_NOTES; i++) {
                notes[i] = new Note();
            }
        }

        boolean hasNote(int note) {
            return note >= 0 && note < size;
        }

        boolean hasBore(int note) {
            return hasNote(note) && notes[note].target == NONE;
        }

        boolean knows(int n) {
            return n >= 0 && n <= size;
        }

        void judgeAll(Key key) {
            for (int i = 0; i < size; i++) {
                if (notes[i].target == NONE) {
                    notes[i].judge(key);
                }
            }
        }

        void gather(int n) {
            findStruck(n);
            counted = 0;
            for (int i = 0; i < n && i < MAX_NOTES; i++) {
                if (notes[i].target == NONE && !struck[i] && notes[i].kind != NONE) {
                    counting[counted] = i;
                    counted++;
                }
            }
        }

        /** From the last note on: a strike strikes only earlier ones, so each is settled before it is asked. */
        private void findStruck(int n) {
            int last = Math.min(n, MAX_NOTES);
            for (int i = 0; i < last; i++) {
                struck[i] = false;
            }
            for (int i = last - 1; i >= 0; i--) {
                int target = notes[i].target;
                if (target >= 0 && target < i && !struck[i]) {
                    struck[target] = true;
                }
            }
        }
    }

    /** How the hands read, and the weights of all kinds at a cell by the bores that the book gathered last. */
    private static final class Chances {
        private final Land land;
        private final Book book;
        private final int[] readings = new int[MAX_HANDS * MAX_KINDS * MAX_KINDS];
        private final int[] row = new int[MAX_KINDS];
        private int kinds;
        final int[] weight = new int[MAX_KINDS];
        int total;
        int best;

        Chances(Land land, Book book) {
            this.land = land;
            this.book = book;
        }

        void resetReads(int newKinds) {
            kinds = newKinds;
            for (int hand = 0; hand < MAX_HANDS; hand++) {
                for (int i = 0; i < MAX_KINDS; i++) {
                    for (int j = 0; j < MAX_KINDS; j++) {
                        readings[place(hand, i, j)] = i == j ? READS_WHOLE : 0;
                    }
                }
            }
        }

        /** Two numbers of a row that is told; a pair that can't be is kept as numbers that can't be. */
        void noteRow(int j, int pair) {
            row[j] = pair < 0 ? NONE : pair / 32;
            row[j + 1] = pair < 0 ? NONE : pair % 32;
        }

        boolean takeRow(int hand, int kind) {
            int sum = 0;
            for (int j = 0; j < MAX_KINDS; j++) {
                if (row[j] < 0 || row[j] > READS_WHOLE || (j >= kinds && row[j] != 0)) {
                    return false;
                }
                sum += row[j];
            }
            if (sum != READS_WHOLE) {
                return false;
            }
            for (int j = 0; j < MAX_KINDS; j++) {
                readings[place(hand, kind, j)] = row[j];
            }
            return true;
        }

        /** Without: the place of a bore among those gathered that is left out, or NONE. */
        void weigh(int cell, int without) {
            for (int k = 0; k < kinds; k++) {
                weight[k] = 1;
            }
            for (int i = 0; i < book.counted; i++) {
                if (i != without) {
                    addBore(cell, book.notes[book.counting[i]]);
                }
            }
            total = 0;
            best = 0;
            for (int k = 0; k < kinds; k++) {
                total += weight[k];
                best = weight[k] > weight[best] ? k : best;
            }
        }

        int partsOf(int kind) {
            return total > 0 ? 1000 * weight[kind] / total : 0;
        }

        int doubt() {
            return 1000 - partsOf(best);
        }

        private void addBore(int cell, Note bore) {
            int likeness = land.likeness(cell, bore.cell);
            for (int k = 0; k < kinds; k++) {
                weight[k] += likeness * readings[place(bore.hand, k, bore.kind)];
            }
        }

        private static int place(int hand, int i, int j) {
            return (hand * MAX_KINDS + i) * MAX_KINDS + j;
        }
    }

    /** Draws the line of least cost along a row or a column. */
    private static final class Drawer {
        private final Land land;
        private final Chances chances;
        int border = 300;
        int bend = 100;
        /** What a kind at a cell and the best of all cells behind it cost together. */
        private final int[][] cost = new int[MAX_SIDE][MAX_KINDS];
        private final int[] change = new int[MAX_SIDE];
        final int[] line = new int[MAX_SIDE];
        int size;

        Drawer(Land land, Chances chances) {
            this.land = land;
            this.chances = chances;
        }

        int drawLine(boolean column, int at) {
            int first = column ? at : at * land.w;
            int stride = column ? land.w : 1;
            size = column ? land.h : land.w;
            for (int i = size - 1; i >= 0; i--) {
                int cell = first + i * stride;
                boolean last = i == size - 1;
                change[i] = last || land.heightGap(cell, cell + stride) < land.steepLow ? border : bend;
                chances.weigh(cell, NONE);
                for (int k = 0; k < chances.kinds; k++) {
                    cost[i][k] = 1000 - chances.partsOf(k) + (last ? 0 : costBehind(i, k, followerOf(i, k)));
                }
            }
            return chooseKinds();
        }

        /** From the front, the least kind of each choice: so the first of equal lines is drawn. */
        private int chooseKinds() {
            int kind = 0;
            for (int k = 1; k < chances.kinds; k++) {
                kind = cost[0][k] < cost[0][kind] ? k : kind;
            }
            int least = cost[0][kind];
            line[0] = kind;
            for (int i = 1; i < size; i++) {
                line[i] = followerOf(i - 1, line[i - 1]);
            }
            return least;
        }

        /** The least kind of those that follow kind k of cell i at least cost. */
        private int followerOf(int i, int k) {
            int follower = 0;
            for (int j = 1; j < chances.kinds; j++) {
                follower = costBehind(i, k, j) < costBehind(i, k, follower) ? j : follower;
            }
            return follower;
        }

        private int costBehind(int i, int k, int j) {
            return cost[i + 1][j] + (k == j ? 0 : change[i]);
        }
    }

    /** Finds where to bore next; keeps the latest plan that there was. */
    private static final class Planner {
        static final int MAX_BORES = 3;
        static final int MAX_DAYS = 60;
        /** Bores two cells apart: two steps and the bore itself. */
        private static final int LEAST_DAYS = 3;

        private final Land land;
        /** Doubt times worth of each cell, NONE where a bore is that counts. */
        private final int[] gain = new int[MAX_CELLS];
        private int topGain;
        private int wanted;
        private int limit;
        private final int[] path = new int[MAX_BORES];
        private final int[] found = new int[MAX_BORES];
        private int foundSum;
        private int foundDays;
        final int[] cells = new int[MAX_BORES];
        int size;
        int days = NONE;

        Planner(Land land) {
            this.land = land;
        }

        void weighGains(Chances chances, Book book) {
            topGain = 0;
            for (int cell = 0; cell < land.cells; cell++) {
                chances.weigh(cell, NONE);
                gain[cell] = chances.doubt() * land.rows[Land.WORTH][cell];
            }
            for (int i = 0; i < book.counted; i++) {
                gain[book.notes[book.counting[i]].cell] = NONE;
            }
            for (int cell = 0; cell < land.cells; cell++) {
                topGain = Math.max(topGain, gain[cell]);
            }
        }

        int findPlan(int m, int mostDays, int from) {
            wanted = m;
            limit = mostDays;
            foundSum = NONE;
            foundDays = 0;
            search(0, from, 0, 0);
            if (foundSum == NONE) {
                return NONE;
            }
            size = m;
            days = foundDays;
            for (int i = 0; i < m; i++) {
                cells[i] = found[i];
            }
            return foundSum;
        }

        /** Goes through the plans in the order of their cells, three levels deep at most. */
        private void search(int level, int from, int spent, int sum) {
            if (level >= wanted || level >= MAX_BORES) {
                keepFound(sum, spent);
                return;
            }
            for (int cell = 0; cell < land.cells; cell++) {
                tryCell(level, from, cell, spent, sum);
            }
        }

        /** Goes on from a cell only if the best that may come behind it would be better than what was found. */
        private void tryCell(int level, int from, int cell, int spent, int sum) {
            int left = wanted - level - 1;
            int most = sum + gain[cell] + left * topGain;
            if (gain[cell] == NONE || most < foundSum) {
                return;
            }
            int nowSpent = spent + land.steps(from, cell) + 1;
            int leastDays = nowSpent + left * LEAST_DAYS;
            if (leastDays <= limit && isBetter(most, leastDays) && isApart(level, cell)) {
                path[level] = cell;
                search(level + 1, cell, nowSpent, sum + gain[cell]);
            }
        }

        /** A later plan wins by more sum or fewer days alone: of equal ones the first by cells stays. */
        private boolean isBetter(int sum, int spent) {
            return sum > foundSum || (sum == foundSum && spent < foundDays);
        }

        private boolean isApart(int level, int cell) {
            for (int i = 0; i < level; i++) {
                if (land.far(path[i], cell) < 2) {
                    return false;
                }
            }
            return true;
        }

        private void keepFound(int sum, int spent) {
            foundSum = sum;
            foundDays = spent;
            for (int i = 0; i < wanted && i < MAX_BORES; i++) {
                found[i] = path[i];
            }
        }
    }

    /** The old map, turned into kinds by the bores that the book gathered last. */
    private static final class OldMap {
        private final Land land;
        private final Book book;
        private final Chances chances;
        final int[][] tally = new int[OLD_CLASSES][MAX_KINDS];
        final int[] turnedTo = new int[OLD_CLASSES];

        OldMap(Land land, Book book, Chances chances) {
            this.land = land;
            this.book = book;
            this.chances = chances;
        }

        void tallyBores() {
            for (int c = 0; c < OLD_CLASSES; c++) {
                for (int k = 0; k < MAX_KINDS; k++) {
                    tally[c][k] = 0;
                }
            }
            for (int i = 0; i < book.counted; i++) {
                Note bore = book.notes[book.counting[i]];
                int c = land.rows[Land.OLD_CLASS][bore.cell];
                if (c != NONE) {
                    tally[c][bore.kind]++;
                }
            }
            for (int c = 0; c < OLD_CLASSES; c++) {
                turnedTo[c] = mostTold(c);
            }
        }

        int countAgreeing() {
            int agreeing = 0;
            for (int cell = 0; cell < land.cells; cell++) {
                int kind = turnedAt(cell);
                if (kind != NONE && kind == bestAt(cell)) {
                    agreeing++;
                }
            }
            return agreeing;
        }

        int seamOfOld(int x) {
            int unlike = 0;
            for (int y = 0; y < land.h; y++) {
                int left = turnedAt(y * land.w + x);
                int right = turnedAt(y * land.w + x + 1);
                if (left != NONE && right != NONE && left != right) {
                    unlike++;
                }
            }
            return unlike;
        }

        int seamOfBest(int x) {
            int unlike = 0;
            for (int y = 0; y < land.h; y++) {
                if (bestAt(y * land.w + x) != bestAt(y * land.w + x + 1)) {
                    unlike++;
                }
            }
            return unlike;
        }

        private int mostTold(int c) {
            int most = NONE;
            for (int k = 0; k < MAX_KINDS; k++) {
                if (tally[c][k] > (most == NONE ? 0 : tally[c][most])) {
                    most = k;
                }
            }
            return most;
        }

        private int turnedAt(int cell) {
            int c = land.rows[Land.OLD_CLASS][cell];
            return c == NONE ? NONE : turnedTo[c];
        }

        private int bestAt(int cell) {
            chances.weigh(cell, NONE);
            return chances.best;
        }
    }

    /** How far two hands agree, by the bores that the book gathered last. */
    private static final class Agreement {
        private final Book book;
        private final int[] kindByOne = new int[MAX_CELLS];
        private final int[] kindByOther = new int[MAX_CELLS];
        private final int[] toldByOne = new int[MAX_KINDS];
        private final int[] toldByOther = new int[MAX_KINDS];
        int many;
        int same;
        int byChance;
        int upper;
        int lower;

        Agreement(Book book) {
            this.book = book;
        }

        void compare(int one, int other) {
            findLatest(one, kindByOne);
            findLatest(other, kindByOther);
            countCells();
            byChance = 0;
            for (int k = 0; k < MAX_KINDS; k++) {
                byChance += toldByOne[k] * toldByOther[k];
            }
            int divisor = greatestDivisor(same * many - byChance, many * many - byChance);
            upper = divisor > 0 ? (same * many - byChance) / divisor : 0;
            lower = divisor > 0 ? (many * many - byChance) / divisor : 0;
        }

        private void findLatest(int hand, int[] kindAt) {
            for (int cell = 0; cell < MAX_CELLS; cell++) {
                kindAt[cell] = NONE;
            }
            for (int i = 0; i < book.counted; i++) {
                Note bore = book.notes[book.counting[i]];
                if (bore.hand == hand) {
                    kindAt[bore.cell] = bore.kind;
                }
            }
        }

        private void countCells() {
            many = 0;
            same = 0;
            for (int k = 0; k < MAX_KINDS; k++) {
                toldByOne[k] = 0;
                toldByOther[k] = 0;
            }
            for (int cell = 0; cell < MAX_CELLS; cell++) {
                int one = kindByOne[cell];
                int other = kindByOther[cell];
                if (one != NONE && other != NONE) {
                    many++;
                    same += one == other ? 1 : 0;
                    toldByOne[one]++;
                    toldByOther[other]++;
                }
            }
        }

        /** Euclid's way; each two rounds halve the number, so 64 are enough. */
        private static int greatestDivisor(int a, int b) {
            int x = Math.abs(a);
            int y = Math.abs(b);
            for (int i = 0; i < 64 && y != 0; i++) {
                int rest = x % y;
                x = y;
                y = rest;
            }
            return x;
        }
    }
}

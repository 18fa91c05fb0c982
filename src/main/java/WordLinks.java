import java.util.Arrays;

/** Word links by counting. README.md tells how to use it; shared/DOC.md says what each call promises. */
public final class WordLinks {
    public static final int NONE = -1;

    private static final int ABSENT = -2;
    private static final int TOO_MANY_PAIRS = -3;
    private static final int LEFT_WORD = -3;
    private static final int TOO_MANY_WORDS = -4;
    private static final int NOT_SO_MANY = -4;
    private static final int TOO_LONG = -5;

    private static final int ONE = 100000;
    private static final int SIDES = 2;
    private static final int MAX_WORDS = 40;
    private static final int MAX_PAIRS = 24;
    private static final int MAX_PLACES = 6;
    private static final int MAX_LETTERS = 7;
    private static final int MAX_CLAUSES = 12;
    private static final int MAX_SHEET = 8;
    private static final int MAX_PARTS = 16;
    private static final int MAX_TAPE = 240;
    private static final int MAX_TEXT = 200;
    private static final int MAX_ROW = 8;
    private static final int MAX_ROW_TEXT = 80;
    private static final int MAX_ROUNDS = 30;
    private static final int MAX_BOX = 3;
    private static final int NEARS = 8;
    private static final int LINK_KINDS = 6;
    private static final int UNLINKED_BYTE = 255;
    private static final int LEFT_PIECE = 9999;
    private static final int LEFT_COST = 2000;
    private static final int PHRASE_COST = 1050;

    private static final int LETTER_BITS = 5;
    private static final int LETTER_MASK = 31;
    private static final int AHEAD_OF_LETTERS = 96;
    private static final int WORD_BITS = 6;
    private static final int WORD_MASK = 63;

    // Every box starts at one of six places and takes one to three of them.
    private static final int SPANS = MAX_PLACES * MAX_BOX;
    private static final int MAX_PHRASES = 5400;

    private final Tape tape = new Tape();
    private final State now = new State();
    private final State kept = new State();
    private final State aside = new State();
    private final Rows one = new Rows();
    private final Rows other = new Rows();
    private final Matcher matcher = new Matcher();
    private final Rounder rounder = new Rounder();
    private final Linker linker = new Linker();
    private final Shape shape = new Shape();
    private final Phrases table = new Phrases();
    private final Putter putter = new Putter();
    private boolean hasKept;

    public WordLinks() {
        hasKept = false;
    }

    // ---- the tape, texts and sheets

    public int feed(int a, int b, int c, int d, int e) {
        if (!tape.hasRoom(20)) {
            return NONE;
        }
        tape.put(a);
        tape.put(b);
        tape.put(c);
        tape.put(d);
        tape.put(e);
        return tape.size;
    }

    public int pairs(int n) {
        if (n < 1 || n > MAX_TEXT || !tape.holds(n)) {
            return NONE;
        }
        boolean isText = tape.readPairs(n, one, other);
        tape.clear();
        return isText ? takePairs() : tape.faultAnswer();
    }

    public int sheets(int n) {
        if (n < 1 || n > MAX_TEXT || !tape.holds(n)) {
            return NONE;
        }
        boolean isText = tape.readSheets(n, one, other);
        tape.clear();
        if (!isText) {
            return tape.faultAnswer();
        }
        now.takeSheets(one, other);
        return one.size + other.size;
    }

    public int matched(int what) {
        boolean isPart = what >= 10 && what < 10 + MAX_PARTS;
        if (!isPart && (what < 0 || what > 3)) {
            return NONE;
        }
        if (!now.hasSheets()) {
            return ABSENT;
        }
        matcher.match(now.sheet0, now.sheet1);
        if (isPart) {
            return what - 10 < matcher.parts ? matcher.kinds[what - 10] : NOT_SO_MANY;
        }
        switch (what) {
            case 0: return matcher.wholeCost();
            case 1: return matcher.parts;
            case 2: return now.sheet0.size;
            default: return now.sheet1.size;
        }
    }

    public int joins() {
        if (!now.hasSheets()) {
            return ABSENT;
        }
        matcher.match(now.sheet0, now.sheet1);
        if (!matcher.join(now.sheet0, now.sheet1, one, other)) {
            return TOO_LONG;
        }
        return takePairs();
    }

    private int takePairs() {
        int answer = now.corpus.append(one, other);
        if (answer >= 0) {
            rounder.begin(now);
        }
        return answer;
    }

    public int drop() {
        if (!now.corpus.removeLatest()) {
            return NONE;
        }
        rounder.begin(now);
        return now.corpus.pairs;
    }

    // ---- rounds and how they are made

    public int rounds(int way, int n) {
        if (!isSide(way) || n < 1 || n > MAX_ROUNDS) {
            return NONE;
        }
        aside.takeShares(now);
        for (int k = 0; k < n; k++) {
            rounder.go(now, way);
        }
        return now.othersThan(aside, way);
    }

    public int even() {
        aside.takeShares(now);
        rounder.begin(now);
        return now.othersThan(aside, 0) + now.othersThan(aside, 1);
    }

    public boolean byLetters(boolean is) {
        if (now.lettered == is) {
            return false;
        }
        now.lettered = is;
        rounder.begin(now);
        return true;
    }

    public boolean placed(boolean is) {
        if (now.placing == is) {
            return false;
        }
        now.placing = is;
        return true;
    }

    public int near(int way, int k) {
        return isSide(way) && k >= 0 && k < NEARS ? now.nears[way][k] : NONE;
    }

    public int likeness(int one, int other) {
        if (!isWord(0, one) || !isWord(1, other)) {
            return NONE;
        }
        return commonLetters(now.corpus.keys[0][one], now.corpus.keys[1][other]);
    }

    public int least(int v) {
        if (v < 0 || v > ONE) {
            return NONE;
        }
        int was = now.bound;
        now.bound = v;
        return was;
    }

    // ---- words, shares and places

    public int side(int side, int what) {
        if (!isSide(side) || what < 0 || what > 1) {
            return NONE;
        }
        return what == 0 ? now.corpus.words[side] : now.corpus.allPlaces(side);
    }

    public int word(int side, int word, int what) {
        boolean isLetter = what >= 10 && what < 10 + MAX_LETTERS;
        if (!isWord(side, word) || !isLetter && (what < 0 || what > 6)) {
            return NONE;
        }
        long key = now.corpus.keys[side][word];
        if (isLetter) {
            int letter = letterOf(key, what - 10);
            return letter == 0 ? NOT_SO_MANY : AHEAD_OF_LETTERS + letter;
        }
        switch (what) {
            case 0: return lettersOf(key);
            case 1: return now.corpus.placesOf(side, word);
            case 2: return Long.bitCount(now.corpus.partners[side][word]);
            case 3: return now.ranked(side, word, 0);
            case 4: return now.shareOf(side, word, now.ranked(side, word, 0));
            case 5: return now.emptyShares(side, word);
            default: return now.corpus.dictionaryPlace(side, word);
        }
    }

    public int find(int side, int n) {
        if (!isSide(side) || n < 1 || n > MAX_LETTERS || !tape.holds(n)) {
            return NONE;
        }
        long key = tape.readLoneWord(n);
        tape.clear();
        int found = now.corpus.numberOf(side, key, now.corpus.words[side]);
        return found < 0 ? ABSENT : found;
    }

    public int share(int way, int from, int to) {
        if (!isSide(way) || !isWord(way, from) || !isWord(1 - way, to)) {
            return NONE;
        }
        return now.corpus.arePartners(way, from, to) ? now.shareOf(way, from, to) : ABSENT;
    }

    public int best(int way, int word, int k, int what) {
        if (!isSide(way) || !isWord(way, word) || k < 0 || what < 0 || what > 1) {
            return NONE;
        }
        int partner = now.ranked(way, word, k);
        if (partner < 0) {
            return NOT_SO_MANY;
        }
        return what == 0 ? partner : now.shareOf(way, word, partner);
    }

    public int at(int pair, int side, int place) {
        if (!isPair(pair) || !isSide(side) || place < 0 || place >= MAX_PLACES) {
            return NONE;
        }
        return place < now.corpus.lengths[side][pair] ? now.corpus.wordAt(side, pair, place) : ABSENT;
    }

    public long fit(int way, int pair) {
        if (!isSide(way) || pair != NONE && !isPair(pair)) {
            return ABSENT;
        }
        if (pair != NONE) {
            return now.pairShares(way, pair);
        }
        long all = 0;
        for (int p = 0; p < now.corpus.pairs; p++) {
            all += now.pairShares(way, p);
        }
        return all;
    }

    public int part(int way, int pair, int i, int j) {
        if (!isSide(way) || !isPlace(pair, way, i) || !isPlace(pair, 1 - way, j)) {
            return NONE;
        }
        rounder.partPlace(now, way, pair, j);
        return rounder.parted.got(i);
    }

    public int counted(int way, int from, int to) {
        if (!isSide(way) || !isWord(way, from) || !isWord(1 - way, to)) {
            return NONE;
        }
        if (!now.corpus.arePartners(way, from, to)) {
            return ABSENT;
        }
        rounder.countAll(now, way);
        return rounder.counts[from * MAX_WORDS + to];
    }

    // ---- links of pairs

    public int links(int kind, int pair, int place) {
        if (!isKind(kind) || !isPlace(pair, 0, place)) {
            return NONE;
        }
        linker.make(now, kind, pair);
        return linker.set[place];
    }

    public int linked(int kind, int pair) {
        if (!isKind(kind) || pair != NONE && !isPair(pair)) {
            return ABSENT;
        }
        if (pair == NONE) {
            return allLinks(kind);
        }
        linker.make(now, kind, pair);
        return linker.size();
    }

    private int allLinks(int kind) {
        int all = 0;
        for (int p = 0; p < now.corpus.pairs; p++) {
            linker.make(now, kind, p);
            all += linker.size();
        }
        return all;
    }

    public int pair(int kind, int pair, int what) {
        if (!isKind(kind) || !isPair(pair) || what < 0 || what > 3) {
            return NONE;
        }
        linker.make(now, kind, pair);
        switch (what) {
            case 0: return linker.boxes();
            case 1: return linker.bareRows();
            case 2: return linker.bareColumns();
            default: return linker.crossings();
        }
    }

    public int cut(int kind, int pair, int what) {
        if (!isKind(kind) || !isPair(pair) || what < 0 || what > 2) {
            return NONE;
        }
        linker.make(now, kind, pair);
        if (!shape.findCut(linker)) {
            return ABSENT;
        }
        switch (what) {
            case 0: return shape.cutRow;
            case 1: return shape.cutColumn;
            default: return shape.cutLinks;
        }
    }

    public long partings(int kind, int pair) {
        if (!isKind(kind) || !isPair(pair)) {
            return NONE;
        }
        linker.make(now, kind, pair);
        return shape.waysApart(linker);
    }

    // ---- phrases

    public int phrases(int kind) {
        if (!isKind(kind)) {
            return NONE;
        }
        table.fill(now, linker, kind);
        return table.size;
    }

    public int phrase(int kind, int phrase, int what) {
        boolean isFirst = what >= 10 && what < 10 + MAX_BOX;
        boolean isSecond = what >= 20 && what < 20 + MAX_BOX;
        if (!isKind(kind) || phrase < 0 || !isFirst && !isSecond && (what < 0 || what > 4)) {
            return NONE;
        }
        table.fill(now, linker, kind);
        if (phrase >= table.size) {
            return NONE;
        }
        if (isFirst || isSecond) {
            int word = table.wordOf(phrase, isFirst ? 0 : 1, what % 10);
            return word < 0 ? NOT_SO_MANY : word;
        }
        switch (what) {
            case 0: return table.boxes[phrase];
            case 1: return table.wordsOf(phrase, 0);
            case 2: return table.wordsOf(phrase, 1);
            case 3: return table.rowBoxes(phrase);
            default: return table.costOf(phrase);
        }
    }

    public int over(int kind, int n, int what) {
        boolean isPiece = what >= 10 && what < 10 + MAX_ROW;
        boolean isComing = what >= 100 && what < 100 + MAX_ROW * MAX_BOX;
        if (!isPiece && !isComing && (what < 0 || what > 2)) {
            return NONE;
        }
        if (!isKind(kind) || n < 1 || n > MAX_ROW_TEXT || !tape.holds(n)) {
            return NONE;
        }
        boolean isRow = tape.readRow(n, one);
        tape.clear();
        if (!isRow || !putter.take(now.corpus, one)) {
            return ABSENT;
        }
        table.fill(now, linker, kind);
        putter.put(table);
        if (isPiece) {
            return what - 10 < putter.pieces ? putter.chosen[what - 10] : NOT_SO_MANY;
        }
        if (isComing) {
            return what - 100 < putter.comingWords ? putter.coming[what - 100] : NOT_SO_MANY;
        }
        switch (what) {
            case 0: return putter.wholeCost();
            case 1: return putter.pieces;
            default: return putter.comingWords;
        }
    }

    // ---- told links, twins, trials

    public int tell(int pair, int i, int j, boolean is) {
        if (!isPlace(pair, 0, i) || !isPlace(pair, 1, j)) {
            return NONE;
        }
        return now.corpus.setTold(pair, i, j, is) ? now.corpus.toldLinks(pair) : ABSENT;
    }

    public int agree(int kind) {
        return isKind(kind) ? agreement(kind) : NONE;
    }

    private int agreement(int kind) {
        int both = 0;
        int together = 0;
        for (int p = 0; p < now.corpus.pairs; p++) {
            int told = now.corpus.toldLinks(p);
            if (told > 0) {
                linker.make(now, kind, p);
                both += linker.sharedWithTold(now.corpus, p);
                together += told + linker.size();
            }
        }
        return together == 0 ? 0 : 20000 * both / together;
    }

    public int twins(int what) {
        if (what == 0) {
            return allTwins();
        }
        if (what < 10 || !isWord(0, what - 10)) {
            return NONE;
        }
        int twin = now.twinOf(what - 10);
        return twin < 0 ? ABSENT : twin;
    }

    private int allTwins() {
        int all = 0;
        for (int u = 0; u < now.corpus.words[0]; u++) {
            if (now.twinOf(u) >= 0) {
                all++;
            }
        }
        return all;
    }

    public int tried(int n, int what) {
        if (n < 1 || n > MAX_ROUNDS || what < 0 || what > 4) {
            return NONE;
        }
        aside.takeShares(now);
        for (int k = 0; k < n; k++) {
            rounder.go(now, 0);
            rounder.go(now, 1);
        }
        int answer = now.fullShares(0) + now.fullShares(1);
        switch (what) {
            case 0: answer = allLinks(2); break;
            case 1: answer = allLinks(3); break;
            case 2: answer = allTwins(); break;
            case 3: answer = agreement(4); break;
            default: break;
        }
        now.takeShares(aside);
        return answer;
    }

    public int bestRounds(int kind) {
        if (!isKind(kind)) {
            return NONE;
        }
        aside.takeShares(now);
        int fewest = 0;
        int greatest = agreement(kind);
        for (int n = 1; n <= MAX_ROUNDS; n++) {
            rounder.go(now, 0);
            rounder.go(now, 1);
            int agreed = agreement(kind);
            if (agreed > greatest) {
                greatest = agreed;
                fewest = n;
            }
        }
        now.takeShares(aside);
        return fewest;
    }

    // ---- kept and undone, checked and counted

    public int keep() {
        kept.takeAll(now);
        hasKept = true;
        return now.corpus.pairs;
    }

    public boolean undo() {
        if (!hasKept) {
            return false;
        }
        now.takeAll(kept);
        return true;
    }

    public int check(int n) {
        if (n < 0 || n > MAX_PLACES || !tape.holds(n)) {
            return ABSENT;
        }
        int wrong = NONE;
        for (int j = 0; j < n && wrong == NONE; j++) {
            if (!isRightLink(j, tape.byteAt(j))) {
                wrong = j;
            }
        }
        tape.clear();
        return wrong;
    }

    private boolean isRightLink(int j, int told) {
        if (!isPlace(0, 1, j)) {
            return false;
        }
        int i = linker.chosenPlace(now, 0, 0, j);
        return told == (i == NONE ? UNLINKED_BYTE : i);
    }

    public int count(int what) {
        switch (what) {
            case 0: return now.corpus.pairs;
            case 1: return now.bound;
            case 2: return tape.size;
            case 3: return now.corpus.allToldLinks();
            default: return NONE;
        }
    }

    // ---- what there is

    private static boolean isSide(int side) {
        return side == 0 || side == 1;
    }

    private static boolean isKind(int kind) {
        return kind >= 0 && kind < LINK_KINDS;
    }

    private boolean isWord(int side, int word) {
        return isSide(side) && word >= 0 && word < now.corpus.words[side];
    }

    private boolean isPair(int pair) {
        return pair >= 0 && pair < now.corpus.pairs;
    }

    private boolean isPlace(int pair, int side, int place) {
        return isPair(pair) && place >= 0 && place < now.corpus.lengths[side][pair];
    }

    // ---- the spelling of words: five bits a letter, the first one highest, so that
    // numbers compare as the words do in a dictionary

    private static long withLetter(long key, int k, int sign) {
        return key | (long) (sign - AHEAD_OF_LETTERS) << LETTER_BITS * (MAX_LETTERS - 1 - k);
    }

    /** Letter k (0 to 6) from 1 on, 0 behind the word's end. */
    private static int letterOf(long key, int k) {
        return (int) (key >>> LETTER_BITS * (MAX_LETTERS - 1 - k)) & LETTER_MASK;
    }

    private static int lettersOf(long key) {
        int n = 0;
        while (n < MAX_LETTERS && letterOf(key, n) != 0) {
            n++;
        }
        return n;
    }

    /**
     * The longest row of letters that both have in order. Bit k of open is 0 where taking letter k of one
     * made the row longer; so no table is made for each of the many words that are compared.
     */
    private static int commonLetters(long one, long other) {
        int all = (1 << lettersOf(one)) - 1;
        int open = all;
        for (int n = 0; n < lettersOf(other); n++) {
            int met = open & placesOfLetter(one, letterOf(other, n));
            open = open + met | open - met;
        }
        return Integer.bitCount(~open & all);
    }

    private static int placesOfLetter(long key, int letter) {
        int places = 0;
        for (int k = 0; k < MAX_LETTERS; k++) {
            if (letterOf(key, k) == letter) {
                places |= 1 << k;
            }
        }
        return places;
    }

    /** The bytes that were fed, and the reading of texts among them. */
    private static final class Tape {
        private static final int BAD_SIGN = 1;
        private static final int EIGHTH_LETTER = 2;
        private static final int TOO_MANY_PARTS = 4;
        private static final int TOO_MANY_WORDS_HERE = 5;

        private final int[] bytes = new int[MAX_TAPE];
        private int size;
        private int end;
        private int place;
        private int fault;

        boolean hasRoom(int more) {
            return size + more <= MAX_TAPE;
        }

        boolean holds(int n) {
            return n <= size;
        }

        void put(int four) {
            for (int shift = 24; shift >= 0; shift -= 8) {
                if (size < MAX_TAPE) {
                    bytes[size] = four >>> shift & 255;
                    size++;
                }
            }
        }

        void clear() {
            size = 0;
        }

        int byteAt(int k) {
            return k >= 0 && k < size ? bytes[k] : NONE;
        }

        int faultAnswer() {
            return -1000 * fault - place;
        }

        boolean readPairs(int n, Rows one, Rows other) {
            begin(n);
            one.clear();
            other.clear();
            for (int clause = 0; clause < MAX_CLAUSES; clause++) {
                if (!readSentence(one, MAX_PLACES) || !pass('=') || !readSentence(other, MAX_PLACES)) {
                    return false;
                }
                if (place == end) {
                    return true;
                }
                if (!pass(';')) {
                    return false;
                }
            }
            return fail(TOO_MANY_PARTS);
        }

        boolean readSheets(int n, Rows one, Rows other) {
            begin(n);
            if (!readSheet(one) || !pass('|') || !readSheet(other)) {
                return false;
            }
            return place == end || fail(BAD_SIGN);
        }

        private boolean readSheet(Rows rows) {
            rows.clear();
            for (int k = 0; k < MAX_SHEET; k++) {
                if (!readSentence(rows, MAX_PLACES)) {
                    return false;
                }
                if (here() != ',') {
                    return true;
                }
                place++;
            }
            return fail(TOO_MANY_PARTS);
        }

        boolean readRow(int n, Rows rows) {
            begin(n);
            rows.clear();
            return readSentence(rows, MAX_ROW) && place == end;
        }

        /** The word that the first n bytes are, NONE if they are none. */
        long readLoneWord(int n) {
            begin(n);
            long key = readWord();
            return place == end ? key : NONE;
        }

        private void begin(int n) {
            end = n;
            place = 0;
            fault = 0;
        }

        private boolean readSentence(Rows rows, int most) {
            rows.open();
            for (int k = 0; k < most; k++) {
                if (!isLetter()) {
                    return fail(BAD_SIGN);
                }
                long key = readWord();
                if (key < 0) {
                    return false;
                }
                rows.push(key);
                if (here() != ' ') {
                    return true;
                }
                place++;
            }
            return fail(isLetter() ? TOO_MANY_WORDS_HERE : BAD_SIGN);
        }

        private long readWord() {
            long key = 0;
            for (int k = 0; k < MAX_LETTERS && isLetter(); k++) {
                key = withLetter(key, k, here());
                place++;
            }
            if (isLetter()) {
                fail(EIGHTH_LETTER);
                return NONE;
            }
            return key;
        }

        private boolean pass(char sign) {
            if (here() != sign) {
                return fail(BAD_SIGN);
            }
            place++;
            return true;
        }

        private int here() {
            return place < end && place < size ? bytes[place] : NONE;
        }

        private boolean isLetter() {
            int sign = here();
            return sign >= 'a' && sign <= 'z';
        }

        private boolean fail(int number) {
            fault = number;
            return false;
        }
    }

    /** Rows of words, spelled: the sentences of one side. */
    private static final class Rows {
        private final int[] lengths = new int[MAX_CLAUSES];
        private final long[] keys = new long[MAX_CLAUSES * MAX_ROW];
        private int size;

        void clear() {
            size = 0;
        }

        void open() {
            if (size < MAX_CLAUSES) {
                lengths[size] = 0;
                size++;
            }
        }

        void push(long key) {
            int row = size - 1;
            if (row >= 0 && lengths[row] < MAX_ROW) {
                keys[row * MAX_ROW + lengths[row]] = key;
                lengths[row]++;
            }
        }

        int lengthOf(int row) {
            return row >= 0 && row < size ? lengths[row] : 0;
        }

        long keyAt(int row, int place) {
            return place >= 0 && place < lengthOf(row) ? keys[row * MAX_ROW + place] : NONE;
        }

        int lettersIn(int row) {
            int letters = 0;
            for (int k = 0; k < lengthOf(row); k++) {
                letters += lettersOf(keyAt(row, k));
            }
            return letters;
        }

        void takeAll(Rows from) {
            size = from.size;
            System.arraycopy(from.lengths, 0, lengths, 0, lengths.length);
            System.arraycopy(from.keys, 0, keys, 0, keys.length);
        }
    }

    /** The pairs, the words in them by number, and the links that were told. */
    private static final class Corpus {
        private final int[] words = new int[SIDES];
        private final long[][] keys = new long[SIDES][MAX_WORDS];
        private final long[][] partners = new long[SIDES][MAX_WORDS];
        private final int[][] lengths = new int[SIDES][MAX_PAIRS];
        private final int[][] places = new int[SIDES][MAX_PAIRS * MAX_PLACES];
        private final int[] told = new int[MAX_PAIRS * MAX_PLACES];
        private int pairs;

        void takeAll(Corpus from) {
            pairs = from.pairs;
            System.arraycopy(from.told, 0, told, 0, told.length);
            for (int side = 0; side < SIDES; side++) {
                words[side] = from.words[side];
                System.arraycopy(from.keys[side], 0, keys[side], 0, MAX_WORDS);
                System.arraycopy(from.partners[side], 0, partners[side], 0, MAX_WORDS);
                System.arraycopy(from.lengths[side], 0, lengths[side], 0, MAX_PAIRS);
                System.arraycopy(from.places[side], 0, places[side], 0, MAX_PAIRS * MAX_PLACES);
            }
        }

        /** All rows come as pairs, or none: how many pairs there are, or why not. */
        int append(Rows one, Rows other) {
            if (pairs + one.size > MAX_PAIRS) {
                return TOO_MANY_PAIRS;
            }
            int words0 = wordsWith(0, one);
            int words1 = wordsWith(1, other);
            if (words0 > MAX_WORDS || words1 > MAX_WORDS) {
                return TOO_MANY_WORDS;
            }
            words[0] = words0;
            words[1] = words1;
            for (int row = 0; row < one.size && pairs < MAX_PAIRS; row++) {
                takeRow(0, one, row);
                takeRow(1, other, row);
                pairs++;
            }
            meetPartners();
            return pairs;
        }

        /** How many words the side would have; the new ones are spelled behind those that count by now. */
        private int wordsWith(int side, Rows rows) {
            int all = words[side];
            for (int row = 0; row < rows.size; row++) {
                for (int k = 0; k < rows.lengthOf(row); k++) {
                    long key = rows.keyAt(row, k);
                    if (numberOf(side, key, all) < 0) {
                        if (all >= MAX_WORDS) {
                            return MAX_WORDS + 1;
                        }
                        keys[side][all] = key;
                        all++;
                    }
                }
            }
            return all;
        }

        private void takeRow(int side, Rows rows, int row) {
            int length = Math.min(rows.lengthOf(row), MAX_PLACES);
            lengths[side][pairs] = length;
            for (int k = 0; k < length; k++) {
                places[side][pairs * MAX_PLACES + k] = Math.max(numberOf(side, rows.keyAt(row, k), words[side]), 0);
            }
        }

        boolean removeLatest() {
            if (pairs <= 0) {
                return false;
            }
            pairs--;
            for (int i = 0; i < MAX_PLACES; i++) {
                told[pairs * MAX_PLACES + i] = 0;
            }
            words[0] = wordsInPairs(0);
            words[1] = wordsInPairs(1);
            meetPartners();
            return true;
        }

        /** Words are numbered as they come first, so the highest number that still stands tells how many stay. */
        private int wordsInPairs(int side) {
            int all = 0;
            for (int p = 0; p < pairs; p++) {
                for (int k = 0; k < lengths[side][p]; k++) {
                    all = Math.max(all, wordAt(side, p, k) + 1);
                }
            }
            return all;
        }

        private void meetPartners() {
            Arrays.fill(partners[0], 0L);
            Arrays.fill(partners[1], 0L);
            for (int p = 0; p < pairs; p++) {
                for (int i = 0; i < lengths[0][p]; i++) {
                    for (int j = 0; j < lengths[1][p]; j++) {
                        int u = wordAt(0, p, i);
                        int v = wordAt(1, p, j);
                        partners[0][u] |= 1L << v;
                        partners[1][v] |= 1L << u;
                    }
                }
            }
        }

        int numberOf(int side, long key, int among) {
            for (int k = 0; k < among && k < MAX_WORDS; k++) {
                if (keys[side][k] == key) {
                    return k;
                }
            }
            return NONE;
        }

        int wordAt(int side, int pair, int place) {
            int at = pair * MAX_PLACES + place;
            return at >= 0 && at < MAX_PAIRS * MAX_PLACES ? places[side][at] : 0;
        }

        boolean arePartners(int way, int from, int to) {
            return from >= 0 && from < MAX_WORDS && (partners[way][from] >>> to & 1L) != 0L;
        }

        int allPlaces(int side) {
            int all = 0;
            for (int p = 0; p < pairs; p++) {
                all += lengths[side][p];
            }
            return all;
        }

        int placesOf(int side, int word) {
            int all = 0;
            for (int p = 0; p < pairs; p++) {
                for (int k = 0; k < lengths[side][p]; k++) {
                    if (wordAt(side, p, k) == word) {
                        all++;
                    }
                }
            }
            return all;
        }

        int dictionaryPlace(int side, int word) {
            int ahead = 0;
            for (int k = 0; k < words[side]; k++) {
                if (keys[side][k] < keys[side][word]) {
                    ahead++;
                }
            }
            return ahead;
        }

        /** False: it is so already. */
        boolean setTold(int pair, int i, int j, boolean is) {
            int row = pair * MAX_PLACES + i;
            if ((told[row] >>> j & 1) == (is ? 1 : 0)) {
                return false;
            }
            told[row] ^= 1 << j;
            return true;
        }

        int toldLinks(int pair) {
            int links = 0;
            for (int i = 0; i < MAX_PLACES; i++) {
                links += Integer.bitCount(told[pair * MAX_PLACES + i]);
            }
            return links;
        }

        int allToldLinks() {
            int links = 0;
            for (int p = 0; p < pairs; p++) {
                links += toldLinks(p);
            }
            return links;
        }
    }

    /** All that is kept and undone: pairs, sheets, shares and what was set. */
    private static final class State {
        private final Corpus corpus = new Corpus();
        private final Rows sheet0 = new Rows();
        private final Rows sheet1 = new Rows();
        private final int[][] shares = new int[SIDES][MAX_WORDS * MAX_WORDS];
        private final int[][] nears = new int[SIDES][NEARS];
        private boolean lettered;
        private boolean placing;
        private int bound;

        State() {
            Arrays.fill(nears[0], ONE / NEARS);
            Arrays.fill(nears[1], ONE / NEARS);
        }

        void takeAll(State from) {
            corpus.takeAll(from.corpus);
            takeSheets(from.sheet0, from.sheet1);
            takeShares(from);
            lettered = from.lettered;
            placing = from.placing;
            bound = from.bound;
        }

        void takeShares(State from) {
            for (int way = 0; way < SIDES; way++) {
                System.arraycopy(from.shares[way], 0, shares[way], 0, MAX_WORDS * MAX_WORDS);
                System.arraycopy(from.nears[way], 0, nears[way], 0, NEARS);
            }
        }

        void takeSheets(Rows one, Rows other) {
            sheet0.takeAll(one);
            sheet1.takeAll(other);
        }

        boolean hasSheets() {
            return sheet0.size > 0;
        }

        /** What is no partner has the share 0 in both, so it never counts. */
        int othersThan(State before, int way) {
            int others = 0;
            for (int k = 0; k < MAX_WORDS * MAX_WORDS; k++) {
                if (shares[way][k] != before.shares[way][k]) {
                    others++;
                }
            }
            return others;
        }

        int shareOf(int way, int from, int to) {
            int at = from * MAX_WORDS + to;
            return at >= 0 && at < MAX_WORDS * MAX_WORDS ? shares[way][at] : 0;
        }

        int fullShares(int way) {
            int full = 0;
            for (int k = 0; k < MAX_WORDS * MAX_WORDS; k++) {
                if (shares[way][k] != 0) {
                    full++;
                }
            }
            return full;
        }

        int emptyShares(int way, int from) {
            int empty = 0;
            for (int to = 0; to < corpus.words[1 - way]; to++) {
                if (corpus.arePartners(way, from, to) && shareOf(way, from, to) == 0) {
                    empty++;
                }
            }
            return empty;
        }

        /** Partner k in the order of shares, NONE if there are not so many. */
        int ranked(int way, int from, int k) {
            for (int to = 0; to < corpus.words[1 - way]; to++) {
                if (corpus.arePartners(way, from, to) && partnersAhead(way, from, to) == k) {
                    return to;
                }
            }
            return NONE;
        }

        private int partnersAhead(int way, int from, int to) {
            int own = shareOf(way, from, to);
            int ahead = 0;
            for (int k = 0; k < corpus.words[1 - way]; k++) {
                int share = shareOf(way, from, k);
                if (corpus.arePartners(way, from, k) && (share > own || share == own && k < to)) {
                    ahead++;
                }
            }
            return ahead;
        }

        int twinOf(int word) {
            int twin = ranked(0, word, 0);
            return twin >= 0 && ranked(1, twin, 0) == word ? twin : NONE;
        }

        /** Of places: one of the sentence from which the way goes, one of the other. */
        int placeShare(int way, int pair, int from, int to) {
            return shareOf(way, corpus.wordAt(way, pair, from), corpus.wordAt(1 - way, pair, to));
        }

        long pairShares(int way, int pair) {
            long all = 0;
            for (int from = 0; from < corpus.lengths[way][pair]; from++) {
                for (int to = 0; to < corpus.lengths[1 - way][pair]; to++) {
                    all += placeShare(way, pair, from, to);
                }
            }
            return all;
        }

        long worth(int way, int pair, int from, int to) {
            long share = placeShare(way, pair, from, to);
            return placing ? share * nears[way][nearness(way, pair, from, to)] : share;
        }

        int nearness(int way, int pair, int from, int to) {
            int area = corpus.lengths[0][pair] * corpus.lengths[1][pair];
            return area <= 0 ? 0 : Math.min(slant(way, pair, from, to) * NEARS / area, NEARS - 1);
        }

        /** How far two places are from standing alike in their sentences. */
        int slant(int way, int pair, int from, int to) {
            int lean = from * corpus.lengths[1 - way][pair] - to * corpus.lengths[way][pair];
            return lean < 0 ? -lean : lean;
        }
    }

    /** Both sheets cut into the cheapest parts. */
    private static final class Matcher {
        private static final int[] TAKEN_0 = {1, 1, 0, 2, 1};
        private static final int[] TAKEN_1 = {1, 0, 1, 1, 2};
        private static final int[] KIND_COSTS = {0, 45, 45, 20, 20};
        private static final int WIDTH = MAX_SHEET + 1;

        private final int[] costs = new int[WIDTH * WIDTH];
        private final int[] kinds = new int[MAX_PARTS];
        private final int[] letters0 = new int[WIDTH];
        private final int[] letters1 = new int[WIDTH];
        private int size0;
        private int size1;
        private int parts;

        void match(Rows one, Rows other) {
            size0 = Math.min(one.size, MAX_SHEET);
            size1 = Math.min(other.size, MAX_SHEET);
            addLetters(one, size0, letters0);
            addLetters(other, size1, letters1);
            for (int i = size0; i >= 0; i--) {
                for (int j = size1; j >= 0; j--) {
                    int kind = cheapestKind(i, j);
                    costs[i * WIDTH + j] = kind == NONE ? 0 : costFrom(kind, i, j);
                }
            }
            walk();
        }

        int wholeCost() {
            return costs[0];
        }

        /** letters[k]: how many all sentences ahead of k have. */
        private void addLetters(Rows rows, int size, int[] letters) {
            letters[0] = 0;
            for (int k = 0; k < size && k < MAX_SHEET; k++) {
                letters[k + 1] = letters[k] + rows.lettersIn(k);
            }
        }

        private void walk() {
            parts = 0;
            int i = 0;
            int j = 0;
            for (int k = 0; k < MAX_PARTS; k++) {
                int kind = cheapestKind(i, j);
                if (kind == NONE) {
                    return;
                }
                kinds[k] = kind;
                parts++;
                i += TAKEN_0[kind];
                j += TAKEN_1[kind];
            }
        }

        /** Of like ones the lowest; NONE at both ends. */
        private int cheapestKind(int i, int j) {
            int cheapest = NONE;
            int least = 0;
            for (int kind = 0; kind < KIND_COSTS.length; kind++) {
                if (i + TAKEN_0[kind] <= size0 && j + TAKEN_1[kind] <= size1) {
                    int cost = costFrom(kind, i, j);
                    if (cheapest == NONE || cost < least) {
                        cheapest = kind;
                        least = cost;
                    }
                }
            }
            return cheapest;
        }

        private int costFrom(int kind, int i, int j) {
            int i2 = i + TAKEN_0[kind];
            int j2 = j + TAKEN_1[kind];
            int cost = KIND_COSTS[kind] + costs[i2 * WIDTH + j2];
            if (kind == 1 || kind == 2) {
                return cost;
            }
            return cost + 10 * Math.abs(letters0[i2] - letters0[i] - letters1[j2] + letters1[j]);
        }

        /** The matched parts with sentences of both sides as rows; false: one would be too long. */
        boolean join(Rows sheet0, Rows sheet1, Rows one, Rows other) {
            one.clear();
            other.clear();
            int i = 0;
            int j = 0;
            for (int k = 0; k < parts; k++) {
                int kind = kinds[k];
                if (kind != 1 && kind != 2) {
                    boolean fits = putTogether(sheet0, i, TAKEN_0[kind], one)
                            && putTogether(sheet1, j, TAKEN_1[kind], other);
                    if (!fits) {
                        return false;
                    }
                }
                i += TAKEN_0[kind];
                j += TAKEN_1[kind];
            }
            return true;
        }

        private boolean putTogether(Rows sheet, int first, int taken, Rows rows) {
            rows.open();
            int all = 0;
            for (int row = first; row < first + taken; row++) {
                all += sheet.lengthOf(row);
                for (int k = 0; k < sheet.lengthOf(row); k++) {
                    rows.push(sheet.keyAt(row, k));
                }
            }
            return all <= MAX_PLACES;
        }
    }

    /** ONE parted by weights, so that nothing is left over. */
    private static final class Parted {
        private final long[] weights = new long[MAX_WORDS];
        private final long[] rests = new long[MAX_WORDS];
        private final int[] gains = new int[MAX_WORDS];
        private int size;

        void clear() {
            size = 0;
        }

        void weigh(long weight) {
            if (size < MAX_WORDS) {
                weights[size] = weight;
                size++;
            }
        }

        int got(int k) {
            return k >= 0 && k < size ? gains[k] : 0;
        }

        void deal() {
            long all = allWeights();
            if (all == 0) {
                Arrays.fill(weights, 1L);
                all = size;
            }
            if (all <= 0) {
                return;
            }
            int left = ONE;
            for (int k = 0; k < size; k++) {
                long dealt = ONE * weights[k];
                gains[k] = (int) (dealt / all);
                rests[k] = dealt % all;
                left -= gains[k];
            }
            for (int n = 0; n < left; n++) {
                dealOneMore();
            }
        }

        private long allWeights() {
            long all = 0;
            for (int k = 0; k < size; k++) {
                all += weights[k];
            }
            return all;
        }

        private void dealOneMore() {
            int greatest = 0;
            for (int k = 1; k < size; k++) {
                if (rests[k] > rests[greatest]) {
                    greatest = k;
                }
            }
            gains[greatest]++;
            rests[greatest] = -1;
        }
    }

    /** Shares begun, and refined by rounds. */
    private static final class Rounder {
        private final Parted parted = new Parted();
        private final int[] counts = new int[MAX_WORDS * MAX_WORDS];
        private final int[] nearCounts = new int[NEARS];

        void begin(State state) {
            for (int way = 0; way < SIDES; way++) {
                Arrays.fill(state.shares[way], 0);
                Arrays.fill(state.nears[way], ONE / NEARS);
                for (int from = 0; from < state.corpus.words[way]; from++) {
                    weighAtFirst(state, way, from);
                    dealShares(state, way, from);
                }
            }
        }

        private void weighAtFirst(State state, int way, int from) {
            Corpus corpus = state.corpus;
            parted.clear();
            for (int to = 0; to < corpus.words[1 - way]; to++) {
                if (corpus.arePartners(way, from, to)) {
                    int alike = state.lettered ? commonLetters(corpus.keys[way][from], corpus.keys[1 - way][to]) : 0;
                    parted.weigh(1 + 3 * alike);
                }
            }
        }

        private void dealShares(State state, int way, int from) {
            parted.deal();
            int k = 0;
            for (int to = 0; to < state.corpus.words[1 - way]; to++) {
                if (state.corpus.arePartners(way, from, to)) {
                    state.shares[way][from * MAX_WORDS + to] = parted.got(k);
                    k++;
                }
            }
        }

        /** ONE parted over the places from which the way goes, for a place to which it goes. */
        void partPlace(State state, int way, int pair, int to) {
            parted.clear();
            for (int from = 0; from < state.corpus.lengths[way][pair]; from++) {
                parted.weigh(state.worth(way, pair, from, to));
            }
            parted.deal();
        }

        void countAll(State state, int way) {
            Arrays.fill(counts, 0);
            Arrays.fill(nearCounts, 0);
            for (int p = 0; p < state.corpus.pairs; p++) {
                for (int to = 0; to < state.corpus.lengths[1 - way][p]; to++) {
                    partPlace(state, way, p, to);
                    addParts(state, way, p, to);
                }
            }
        }

        private void addParts(State state, int way, int pair, int to) {
            int target = state.corpus.wordAt(1 - way, pair, to);
            for (int from = 0; from < state.corpus.lengths[way][pair]; from++) {
                int got = parted.got(from);
                counts[state.corpus.wordAt(way, pair, from) * MAX_WORDS + target] += got;
                nearCounts[state.nearness(way, pair, from, to)] += got;
            }
        }

        /** One round of a way. */
        void go(State state, int way) {
            countAll(state, way);
            for (int from = 0; from < state.corpus.words[way]; from++) {
                weighCounts(state.corpus, way, from);
                dealShares(state, way, from);
            }
            if (state.placing) {
                dealNears(state, way);
            }
        }

        private void weighCounts(Corpus corpus, int way, int from) {
            parted.clear();
            for (int to = 0; to < corpus.words[1 - way]; to++) {
                if (corpus.arePartners(way, from, to)) {
                    parted.weigh(counts[from * MAX_WORDS + to]);
                }
            }
        }

        private void dealNears(State state, int way) {
            parted.clear();
            for (int k = 0; k < NEARS; k++) {
                parted.weigh(nearCounts[k]);
            }
            parted.deal();
            for (int k = 0; k < NEARS; k++) {
                state.nears[way][k] = parted.got(k);
            }
        }
    }

    /** The links of one pair by one kind: for each place of side 0 the bits of side 1. */
    private static final class Linker {
        private final int[] forth = new int[MAX_PLACES];
        private final int[] back = new int[MAX_PLACES];
        private final int[] either = new int[MAX_PLACES];
        private final int[] set = new int[MAX_PLACES];
        private int rows;
        private int columns;

        void make(State state, int kind, int pair) {
            rows = state.corpus.lengths[0][pair];
            columns = state.corpus.lengths[1][pair];
            Arrays.fill(forth, 0);
            for (int j = 0; j < columns; j++) {
                int i = chosenPlace(state, 0, pair, j);
                if (i != NONE) {
                    forth[i] |= 1 << j;
                }
            }
            for (int i = 0; i < MAX_PLACES; i++) {
                int j = i < rows ? chosenPlace(state, 1, pair, i) : NONE;
                back[i] = j == NONE ? 0 : 1 << j;
                either[i] = forth[i] | back[i];
                set[i] = firstLinks(kind, i);
            }
            if (kind >= 4) {
                grow();
            }
            if (kind == 5) {
                fillUp();
            }
        }

        private int firstLinks(int kind, int i) {
            switch (kind) {
                case 0: return forth[i];
                case 1: return back[i];
                case 3: return either[i];
                default: return forth[i] & back[i];
            }
        }

        /** The place from which the way goes that a place to which it goes is linked to, or NONE. */
        int chosenPlace(State state, int way, int pair, int to) {
            int chosen = NONE;
            long greatest = 0;
            int nearest = 0;
            for (int from = 0; from < state.corpus.lengths[way][pair]; from++) {
                long worth = state.worth(way, pair, from, to);
                int slant = state.slant(way, pair, from, to);
                if (chosen == NONE || worth > greatest || worth == greatest && slant < nearest) {
                    chosen = from;
                    greatest = worth;
                    nearest = slant;
                }
            }
            if (chosen == NONE || state.placeShare(way, pair, chosen, to) < state.bound) {
                return NONE;
            }
            return chosen;
        }

        /** Each time over but the last brings a link, so there are never more times than links can come. */
        private void grow() {
            boolean came = true;
            for (int time = 0; came && time <= MAX_PLACES * MAX_PLACES; time++) {
                came = growOnce();
            }
        }

        private boolean growOnce() {
            boolean came = false;
            for (int i = 0; i < rows; i++) {
                for (int j = 0; j < columns; j++) {
                    if (mayCome(i, j) && hasNeighbour(i, j) && (set[i] == 0 || isBareColumn(j))) {
                        set[i] |= 1 << j;
                        came = true;
                    }
                }
            }
            return came;
        }

        private void fillUp() {
            for (int i = 0; i < rows; i++) {
                for (int j = 0; j < columns; j++) {
                    if (mayCome(i, j) && set[i] == 0 && isBareColumn(j)) {
                        set[i] |= 1 << j;
                    }
                }
            }
        }

        private boolean mayCome(int i, int j) {
            return (either[i] & ~set[i] & 1 << j) != 0;
        }

        private boolean hasNeighbour(int i, int j) {
            int near = 7 << j >> 1;
            for (int k = Math.max(i - 1, 0); k <= i + 1 && k < rows; k++) {
                if ((set[k] & near) != 0) {
                    return true;
                }
            }
            return false;
        }

        private boolean isBareColumn(int j) {
            return (columnsWithLinks() >>> j & 1) == 0;
        }

        private int columnsWithLinks() {
            int all = 0;
            for (int i = 0; i < rows; i++) {
                all |= set[i];
            }
            return all;
        }

        int size() {
            return linksWithin(0, rows, 0, columns);
        }

        /** Links from places i0 up to i1 (not it) to places j0 up to j1 (not it). */
        int linksWithin(int i0, int i1, int j0, int j1) {
            int mask = (1 << j1) - (1 << j0);
            int links = 0;
            for (int i = Math.max(i0, 0); i < i1 && i < rows; i++) {
                links += Integer.bitCount(set[i] & mask);
            }
            return links;
        }

        int sharedWithTold(Corpus corpus, int pair) {
            int shared = 0;
            for (int i = 0; i < rows; i++) {
                shared += Integer.bitCount(set[i] & corpus.told[pair * MAX_PLACES + i]);
            }
            return shared;
        }

        int bareRows() {
            int bare = 0;
            for (int i = 0; i < rows; i++) {
                if (set[i] == 0) {
                    bare |= 1 << i;
                }
            }
            return bare;
        }

        int bareColumns() {
            return (1 << columns) - 1 & ~columnsWithLinks();
        }

        int crossings() {
            int crossings = 0;
            for (int i = 0; i < rows; i++) {
                for (int j = 0; j < columns; j++) {
                    if ((set[i] >>> j & 1) != 0) {
                        crossings += linksWithin(i + 1, rows, 0, j);
                    }
                }
            }
            return crossings;
        }

        int boxes() {
            int boxes = 0;
            for (int one = 0; one < SPANS; one++) {
                for (int other = 0; other < SPANS; other++) {
                    if (isBox(one, other)) {
                        boxes++;
                    }
                }
            }
            return boxes;
        }

        /** A span stands for where a box starts and how many places it takes. */
        boolean isBox(int one, int other) {
            int i0 = spanStart(one);
            int i1 = spanEnd(one);
            int j0 = spanStart(other);
            int j1 = spanEnd(other);
            if (i1 > rows || j1 > columns) {
                return false;
            }
            int inside = linksWithin(i0, i1, j0, j1);
            return inside > 0
                    && inside == linksWithin(i0, i1, 0, columns)
                    && inside == linksWithin(0, rows, j0, j1);
        }

        static int spanStart(int span) {
            return span / MAX_BOX;
        }

        /** The place behind the span's last one. */
        static int spanEnd(int span) {
            return span / MAX_BOX + span % MAX_BOX + 1;
        }
    }

    /** Where a pair is best cut, and in how many ways it comes apart. */
    private static final class Shape {
        private static final int WIDTH = MAX_PLACES + 1;

        // By a part's first place and how many it has, on side 0 and on side 1.
        private final long[] ways = new long[WIDTH * WIDTH * WIDTH * WIDTH];
        private int cutRow;
        private int cutColumn;
        private int cutLinks;

        /** False: one sentence has one word alone. */
        boolean findCut(Linker links) {
            boolean found = false;
            for (int i = 1; i < links.rows; i++) {
                for (int j = 1; j < links.columns; j++) {
                    int across = links.linksWithin(0, i, j, links.columns) + links.linksWithin(i, links.rows, 0, j);
                    if (!found || across < cutLinks) {
                        found = true;
                        cutRow = i;
                        cutColumn = j;
                        cutLinks = across;
                    }
                }
            }
            return found;
        }

        /** Small parts first, so that what a part comes apart into is known by then. */
        long waysApart(Linker links) {
            for (int p = 1; p <= links.rows; p++) {
                for (int q = 1; q <= links.columns; q++) {
                    fillParts(links, p, q);
                }
            }
            return ways[index(0, links.rows, 0, links.columns)];
        }

        private void fillParts(Linker links, int p, int q) {
            for (int i = 0; i + p <= links.rows; i++) {
                for (int j = 0; j + q <= links.columns; j++) {
                    ways[index(i, p, j, q)] = p == 1 || q == 1 ? 1 : waysOfPart(links, i, p, j, q);
                }
            }
        }

        private long waysOfPart(Linker links, int i, int p, int j, int q) {
            long all = 0;
            for (int x = 1; x < p; x++) {
                for (int y = 1; y < q; y++) {
                    boolean linkedAcross = links.linksWithin(i, i + x, j + y, j + q) > 0
                            || links.linksWithin(i + x, i + p, j, j + y) > 0;
                    boolean linkedAlong = links.linksWithin(i, i + x, j, j + y) > 0
                            || links.linksWithin(i + x, i + p, j + y, j + q) > 0;
                    if (!linkedAcross) {
                        all += ways[index(i, x, j, y)] * ways[index(i + x, p - x, j + y, q - y)];
                    }
                    if (!linkedAlong) {
                        all += ways[index(i, x, j + y, q - y)] * ways[index(i + x, p - x, j, y)];
                    }
                }
            }
            return all;
        }

        private static int index(int i, int p, int j, int q) {
            return ((i * WIDTH + p) * WIDTH + j) * WIDTH + q;
        }
    }

    /** The table of phrases: rows of words as numbers, sorted, with how many boxes hold them. */
    private static final class Phrases {
        private static final int ROW_BITS = WORD_BITS * MAX_BOX;

        private final long[] rows = new long[MAX_PHRASES];
        private final int[] boxes = new int[MAX_PHRASES];
        private int size;

        void fill(State state, Linker linker, int kind) {
            size = 0;
            for (int p = 0; p < state.corpus.pairs; p++) {
                linker.make(state, kind, p);
                fillFromPair(state.corpus, linker, p);
            }
        }

        private void fillFromPair(Corpus corpus, Linker linker, int pair) {
            for (int one = 0; one < SPANS; one++) {
                for (int other = 0; other < SPANS; other++) {
                    if (linker.isBox(one, other)) {
                        insert(rowIn(corpus, 0, pair, one) << ROW_BITS | rowIn(corpus, 1, pair, other));
                    }
                }
            }
        }

        /** The first word highest, each as its number and 1: so a beginning of another row is the lower number. */
        private long rowIn(Corpus corpus, int side, int pair, int span) {
            int start = Linker.spanStart(span);
            int end = Linker.spanEnd(span);
            long row = 0;
            for (int k = 0; k < MAX_BOX; k++) {
                row <<= WORD_BITS;
                if (start + k < end) {
                    row |= corpus.wordAt(side, pair, start + k) + 1;
                }
            }
            return row;
        }

        private void insert(long row) {
            int at = placeFor(row);
            if (at < size && rows[at] == row) {
                boxes[at]++;
            } else if (size < MAX_PHRASES) {
                System.arraycopy(rows, at, rows, at + 1, size - at);
                System.arraycopy(boxes, at, boxes, at + 1, size - at);
                rows[at] = row;
                boxes[at] = 1;
                size++;
            }
        }

        private int placeFor(long row) {
            int low = 0;
            int high = size;
            for (int step = 0; low < high && step < 32; step++) {
                int middle = (low + high) / 2;
                if (rows[middle] < row) {
                    low = middle + 1;
                } else {
                    high = middle;
                }
            }
            return low;
        }

        /** Word k of a side's row, NONE if it has not so many. */
        int wordOf(int phrase, int side, int k) {
            long row = side == 0 ? rows[phrase] >>> ROW_BITS : rows[phrase];
            return ((int) (row >>> WORD_BITS * (MAX_BOX - 1 - k)) & WORD_MASK) - 1;
        }

        int wordsOf(int phrase, int side) {
            int n = 0;
            while (n < MAX_BOX && wordOf(phrase, side, n) >= 0) {
                n++;
            }
            return n;
        }

        int rowBoxes(int phrase) {
            long row = rows[phrase] >>> ROW_BITS;
            int all = 0;
            for (int k = 0; k < size; k++) {
                if (rows[k] >>> ROW_BITS == row) {
                    all += boxes[k];
                }
            }
            return all;
        }

        int costOf(int phrase) {
            int all = rowBoxes(phrase);
            return all == 0 ? PHRASE_COST : PHRASE_COST - 1000 * boxes[phrase] / all;
        }
    }

    /** A row of words put over by the cheapest row of phrases. */
    private static final class Putter {
        private final int[] words = new int[MAX_ROW];
        private final int[] costs = new int[MAX_ROW + 1];
        private final int[] counts = new int[MAX_ROW + 1];
        private final int[] choices = new int[MAX_ROW];
        private final int[] chosen = new int[MAX_ROW];
        private final int[] coming = new int[MAX_ROW * MAX_BOX];
        private int size;
        private int pieces;
        private int comingWords;

        /** False: a word of the row is not known. */
        boolean take(Corpus corpus, Rows rows) {
            size = Math.min(rows.lengthOf(0), MAX_ROW);
            for (int k = 0; k < size; k++) {
                words[k] = corpus.numberOf(0, rows.keyAt(0, k), corpus.words[0]);
                if (words[k] < 0) {
                    return false;
                }
            }
            return true;
        }

        int wholeCost() {
            return costs[0];
        }

        void put(Phrases table) {
            costs[size] = 0;
            counts[size] = 0;
            for (int at = size - 1; at >= 0; at--) {
                choose(table, at);
            }
            walk(table);
        }

        /** Phrases rise and what is left comes last, so only what is truly better takes the place of another. */
        private void choose(Phrases table, int at) {
            choices[at] = NONE;
            for (int phrase = 0; phrase < table.size; phrase++) {
                if (fits(table, phrase, at)) {
                    offer(at, phrase, table.costOf(phrase), table.wordsOf(phrase, 0));
                }
            }
            offer(at, LEFT_PIECE, LEFT_COST, 1);
        }

        private boolean fits(Phrases table, int phrase, int at) {
            int length = table.wordsOf(phrase, 0);
            if (at + length > size) {
                return false;
            }
            for (int k = 0; k < length; k++) {
                if (table.wordOf(phrase, 0, k) != words[at + k]) {
                    return false;
                }
            }
            return true;
        }

        private void offer(int at, int piece, int cost, int length) {
            int whole = cost + costs[at + length];
            int count = 1 + counts[at + length];
            if (choices[at] == NONE || whole < costs[at] || whole == costs[at] && count < counts[at]) {
                choices[at] = piece;
                costs[at] = whole;
                counts[at] = count;
            }
        }

        private void walk(Phrases table) {
            pieces = 0;
            comingWords = 0;
            int at = 0;
            for (int k = 0; k < MAX_ROW && at < size; k++) {
                int piece = choices[at];
                chosen[k] = piece;
                pieces++;
                if (piece == LEFT_PIECE) {
                    bring(LEFT_WORD);
                    at++;
                } else {
                    for (int n = 0; n < table.wordsOf(piece, 1); n++) {
                        bring(table.wordOf(piece, 1, n));
                    }
                    at += table.wordsOf(piece, 0);
                }
            }
        }

        private void bring(int word) {
            if (comingWords < coming.length) {
                coming[comingWords] = word;
                comingWords++;
            }
        }
    }
}

import java.util.Arrays;

/** Who spoke when: ../shared/DOC.md tells every promise of this class; words in capitals are its terms. */
public final class VoiceHeaps {
    public static final int BAD = -1, STATE = -2, FULL = -3, NONE = -9;
    public static final int NO = -1000000;

    private static final int MOST_ROWS = 48;
    private static final int NUMBERS = 4;
    private static final int LOUDEST = 99;
    // Beyond 9 PIECES the document refuses what needs HEAPS: all heapings of 9 are some 21000.
    private static final int MOST_HEAPED = 9;
    private static final int NOTHING_SHOWN = -1;
    // Above all costs, OFFS and WORTHS.
    private static final int BEYOND = 1000000000;

    private final RuleText ruleText;
    private final RowBook book;
    private final Gathering gathering;
    private final Cutting cutting;
    private final Bonds bonds;
    private final AllHeapings all;
    private final Heaping joined;
    private final KeptVoices kept;
    private final WordBook wordBook;
    private final Verdict verdict;
    private final Kinds kinds;
    private final int[] shownHeap;
    private int shownRows;
    // What is found is kept until a ROW or a RULE changes, for the search for it is dear.
    private boolean cutIsOld;
    private boolean heapsAreOld;
    private boolean nearIsOld;

    public VoiceHeaps() {
        ruleText = new RuleText();
        book = new RowBook();
        gathering = new Gathering();
        cutting = new Cutting();
        bonds = new Bonds();
        all = new AllHeapings();
        joined = new Heaping();
        kept = new KeptVoices();
        wordBook = new WordBook();
        verdict = new Verdict();
        kinds = new Kinds();
        shownHeap = new int[MOST_ROWS];
        shownRows = NOTHING_SHOWN;
        cutIsOld = true;
        heapsAreOld = true;
        nearIsOld = true;
    }

    // ---- rows, rules

    public int type(long v, int n) {
        if (!within(n, 1, 8)) {
            return BAD;
        }
        return ruleText.append(v, n) ? ruleText.length : FULL;
    }

    public int clear() {
        int had = ruleText.length;
        ruleText.length = 0;
        return had;
    }

    public int rules() {
        int answer = ruleText.read();
        if (answer >= 0) {
            nothingIsFound();
        }
        return answer;
    }

    public int rule(int what) {
        return within(what, 0, RuleText.RULES - 1) ? ruleText.ruleNow(what) : BAD;
    }

    public int row(int a, int b, int c, int d) {
        if (!isLoudness(a) || !isLoudness(b) || !isLoudness(c) || !isLoudness(d)) {
            return BAD;
        }
        if (book.rows >= MOST_ROWS) {
            return FULL;
        }
        nothingIsFound();
        return book.addRow(a, b, c, d);
    }

    public int deaf(int n) {
        if (!within(n, 1, 9)) {
            return BAD;
        }
        if (book.rows + n > MOST_ROWS) {
            return FULL;
        }
        nothingIsFound();
        for (int i = 0; i < n; i++) {
            book.addDeaf();
        }
        return book.rows;
    }

    public int out(int from, int to, int out) {
        if (!areRows(from, to) || !within(out, 0, 1)) {
            return BAD;
        }
        int changed = book.setOut(from, to, out == 1);
        if (changed > 0) {
            nothingIsFound();
        }
        return changed;
    }

    public int hush() {
        int had = book.rows;
        book.rows = 0;
        wordBook.words = 0;
        shownRows = NOTHING_SHOWN;
        nothingIsFound();
        return had;
    }

    // ---- pieces

    public int pieces(int what) {
        cutNow();
        switch (what) {
            case 0: return cutting.pieces;
            case 1: return cutting.stretches;
            case 2: return cutting.total;
            case 3: return cutting.heardRows;
            default: return BAD;
        }
    }

    public int piece(int p, int what) {
        if (!isPiece(p)) {
            return BAD;
        }
        switch (what) {
            case 0: return cutting.first[p];
            case 1: return cutting.size[p];
            case 2: return cutting.spread[p];
            case 3: case 4: case 5: case 6: return cutting.middleOf(p, what - 3);
            default: return BAD;
        }
    }

    public int of(int row) {
        if (!within(row, 0, book.rows - 1)) {
            return BAD;
        }
        cutNow();
        return cutting.pieceOf[row];
    }

    public int like(int p, int q) {
        if (!isPiece(p) || !isPiece(q) || p == q) {
            return NO;
        }
        return cutting.likeness(p, q, ruleText.ruleNow(RuleText.LIKE));
    }

    // ---- heaps

    public int heap(int p, int way) {
        if (!isPiece(p) || !within(way, 0, 1)) {
            return BAD;
        }
        if (!heapNow()) {
            return STATE;
        }
        return byWay(way).heapOf[p];
    }

    public int worth(int way) {
        if (!within(way, 0, 1) || !heapNow()) {
            return NO;
        }
        return byWay(way).value;
    }

    public int near(int what) {
        if (!within(what, 0, 4)) {
            return BAD;
        }
        if (!heapNow()) {
            return STATE;
        }
        if (what > 2) {
            return byWay(what - 3).heaps;
        }
        nearNow();
        if (what == 0) {
            return all.nearOnes;
        }
        return what == 1 ? all.fewest : all.most;
    }

    public int sure(int p, int q) {
        if (!isPiece(p) || !isPiece(q) || p == q) {
            return BAD;
        }
        if (!heapNow()) {
            return STATE;
        }
        nearNow();
        return all.sureness(p, q);
    }

    public int middle(int heap, int i) {
        if (!isHeapNumber(heap) || !within(i, 0, NUMBERS - 1)) {
            return BAD;
        }
        int refused = refusedHeap(heap);
        return refused < 0 ? refused : all.best.middleOf(heap, i);
    }

    public int twice(int p, int what) {
        if (!isPiece(p) || !within(what, 0, 1)) {
            return BAD;
        }
        if (!heapNow()) {
            return STATE;
        }
        int two = all.best.twoInOne(cutting, p, ruleText.ruleNow(RuleText.TWICE));
        if (two == NONE) {
            return NONE;
        }
        return what == 0 ? two / MOST_HEAPED : two % MOST_HEAPED;
    }

    // ---- voices, words

    public int keep(int heap, int name) {
        if (!isHeapNumber(heap) || !within(name, 1, 99)) {
            return BAD;
        }
        int refused = refusedHeap(heap);
        if (refused < 0) {
            return refused;
        }
        return kept.add(all.best, heap, name);
    }

    public int forget(int voice) {
        return kept.has(voice) ? kept.remove(voice) : BAD;
    }

    public int back(int heap, int what) {
        if (!isHeapNumber(heap) || !within(what, 0, 1)) {
            return BAD;
        }
        int refused = refusedHeap(heap);
        if (refused < 0) {
            return refused;
        }
        int voice = kept.nearestTo(all.best, heap, ruleText.ruleNow(RuleText.LIKE));
        if (voice == NONE || what == 1) {
            return voice;
        }
        return kept.names[voice];
    }

    public int odds(int heap, int voice, int what) {
        if (!isHeapNumber(heap) || !kept.has(voice) || !within(what, 0, 1)) {
            return BAD;
        }
        int refused = refusedHeap(heap);
        if (refused < 0) {
            return refused;
        }
        return kept.dealsOf(cutting, all.best.membersOf(heap, cutting.pieces), voice, what == 1);
    }

    public int show() {
        if (!heapNow()) {
            return STATE;
        }
        for (int r = 0; r < book.rows; r++) {
            shownHeap[r] = heapOfRow(r);
        }
        shownRows = book.rows;
        return shownRows;
    }

    public int otherwise() {
        if (shownRows == NOTHING_SHOWN || !heapNow()) {
            return STATE;
        }
        int others = 0;
        for (int r = 0; r < shownRows && r < book.rows; r++) {
            if (heapOfRow(r) != shownHeap[r]) {
                others++;
            }
        }
        return others;
    }

    public int word(int from, int to) {
        return areRows(from, to) ? wordBook.add(from, to) : BAD;
    }

    public int hung(int word, int what) {
        if (!within(word, 0, wordBook.words - 1) || !within(what, 0, 1)) {
            return BAD;
        }
        cutNow();
        return what == 0 ? wordBook.pieceWithMost(cutting, word) : wordBook.piecesWithSome(cutting, word);
    }

    public int truth(int from, int to, int v) {
        return areRows(from, to) && within(v, 0, Verdict.PEOPLE) ? book.setTruth(from, to, v) : BAD;
    }

    public int errors(int what) {
        if (!within(what, 0, 2)) {
            return BAD;
        }
        cutNow();
        if (what == 0) {
            return verdict.missed(book, cutting);
        }
        if (what == 1) {
            return verdict.madeUp(book, cutting);
        }
        return heapNow() ? verdict.wrong(book, cutting, all.best) : STATE;
    }

    public int weight(int kind, int p) {
        if (!within(kind, 0, Kinds.KINDS - 1) || !isPiece(p)) {
            return BAD;
        }
        return kinds.weigh(kind, cutting, p, kept.voices);
    }

    public int count(int what) {
        switch (what) {
            case 0: return book.rows;
            case 1: return book.deafRows();
            case 2: return book.outRows();
            case 3: return kept.voices;
            case 4: return wordBook.words;
            case 5: return ruleText.length;
            default: return BAD;
        }
    }

    public long trace() {
        return kinds.asked;
    }

    // ---- what the calls share

    private static boolean within(int x, int least, int most) {
        return x >= least && x <= most;
    }

    private static boolean isLoudness(int x) {
        return within(x, 0, LOUDEST);
    }

    private static boolean isHeapNumber(int heap) {
        return within(heap, 0, MOST_HEAPED - 1);
    }

    private boolean areRows(int from, int to) {
        return from >= 0 && from <= to && to < book.rows;
    }

    private boolean isPiece(int p) {
        cutNow();
        return within(p, 0, cutting.pieces - 1);
    }

    // A HEAP that there is not can only be told once there are HEAPS: so this BAD comes behind STATE.
    private int refusedHeap(int heap) {
        if (!heapNow()) {
            return STATE;
        }
        return heap < all.best.heaps ? 0 : BAD;
    }

    private Heaping byWay(int way) {
        return way == 0 ? all.best : joined;
    }

    private int heapOfRow(int row) {
        int p = cutting.pieceOf[row];
        return within(p, 0, MOST_HEAPED - 1) ? all.best.heapOf[p] : NONE;
    }

    private void nothingIsFound() {
        cutIsOld = true;
        heapsAreOld = true;
        nearIsOld = true;
    }

    private void cutNow() {
        if (cutIsOld) {
            cutting.cut(book, gathering, ruleText.ruleNow(RuleText.PRICE), ruleText.ruleNow(RuleText.HUSH));
            cutIsOld = false;
        }
    }

    /** Finds BEST and JOINED; false: there are more PIECES than can be heaped. */
    private boolean heapNow() {
        cutNow();
        if (cutting.pieces > MOST_HEAPED) {
            return false;
        }
        if (heapsAreOld) {
            bonds.tie(cutting, ruleText.ruleNow(RuleText.LIKE), ruleText.ruleNow(RuleText.TURN));
            all.findBest(bonds);
            all.best.findMiddles(book, gathering, cutting);
            bonds.join(joined);
            heapsAreOld = false;
        }
        return true;
    }

    private void nearNow() {
        if (nearIsOld) {
            all.findNear(bonds, ruleText.ruleNow(RuleText.NEAR));
            nearIsOld = false;
        }
    }

    /** OFF of two MIDDLES, each the four numbers of its array from a place on. */
    private static int off(int[] one, int oneAt, int[] other, int otherAt) {
        if (oneAt < 0 || oneAt > one.length - NUMBERS || otherAt < 0 || otherAt > other.length - NUMBERS) {
            return 0;
        }
        int sum = 0;
        for (int i = 0; i < NUMBERS; i++) {
            sum += Math.abs(one[oneAt + i] - other[otherAt + i]);
        }
        return sum;
    }

    /** THE TEXT that is typed, and the RULES that were read last. */
    private static final class RuleText {
        static final int PRICE = 0, HUSH = 1, LIKE = 2, NEAR = 3, TURN = 4, TWICE = 5;
        static final int RULES = 6;
        private static final int ROOM = 200;
        private static final int NO_FAULT = -10;
        private static final int NO_TOKEN = -1;
        private static final int GREATEST = 9999;
        private static final int[] AT_FIRST = {20, 10, 40, 0, 0, 10};
        private static final int[] MOST = {999, 399, 399, 9999, 999, 399};

        private final int[] bytes = new int[ROOM];
        private final int[] now = new int[RULES];
        private final int[] told = new int[RULES];
        private int length;
        private int at;

        RuleText() {
            for (int k = 0; k < RULES; k++) {
                now[k] = AT_FIRST[k];
            }
        }

        int ruleNow(int k) {
            return k >= 0 && k < RULES ? now[k] : 0;
        }

        boolean append(long v, int n) {
            if (n < 0 || n > ROOM - length) {
                return false;
            }
            for (int i = n - 1; i >= 0; i--) {
                bytes[length] = (int) (v >>> (8 * i)) & 255;
                length++;
            }
            return true;
        }

        /** How many ITEMS became RULES, or -10 less FAULT. */
        int read() {
            Arrays.fill(told, NO_TOKEN);
            at = 0;
            // No word is told twice, so the turn behind the last RULE finds the end or a FAULT.
            for (int items = 0; items <= RULES; items++) {
                if (endsBehindBlanks()) {
                    adopt();
                    return items;
                }
                int fault = readItem();
                if (fault >= 0) {
                    return NO_FAULT - fault;
                }
            }
            return NO_FAULT - at;
        }

        private void adopt() {
            for (int k = 0; k < RULES; k++) {
                now[k] = told[k] == NO_TOKEN ? AT_FIRST[k] : told[k];
            }
            length = 0;
        }

        private boolean endsBehindBlanks() {
            while (at < length && bytes[at] == ' ') {
                at++;
            }
            return at >= length;
        }

        /** Reads a word, a NUMBER and a ; : the place of the FAULT, or NO_TOKEN if there is none. */
        private int readItem() {
            int start = at;
            int which = readWord();
            if (which == NO_TOKEN || told[which] != NO_TOKEN) {
                return start;
            }
            if (endsBehindBlanks()) {
                return length;
            }
            start = at;
            int value = readNumber();
            if (value == NO_TOKEN || value > MOST[which]) {
                return start;
            }
            if (endsBehindBlanks()) {
                return length;
            }
            if (bytes[at] != ';') {
                return at;
            }
            at++;
            told[which] = value;
            return NO_TOKEN;
        }

        private int readWord() {
            int start = at;
            while (at < length && isLetter(bytes[at])) {
                at++;
            }
            for (int k = 0; k < RULES; k++) {
                if (isWord(wordOf(k), start, at)) {
                    return k;
                }
            }
            return NO_TOKEN;
        }

        private int readNumber() {
            int start = at;
            int value = 0;
            while (at < length && isDigit(bytes[at])) {
                // Held just above the greatest, for a text has room for NUMBERS that no int holds.
                value = Math.min(value * 10 + bytes[at] - '0', GREATEST + 1);
                at++;
            }
            int digits = at - start;
            if (digits == 0 || value > GREATEST || (digits > 1 && bytes[start] == '0')) {
                return NO_TOKEN;
            }
            return value;
        }

        private boolean isWord(String name, int start, int end) {
            if (end - start != name.length()) {
                return false;
            }
            for (int i = 0; i < name.length(); i++) {
                if (bytes[start + i] != name.charAt(i)) {
                    return false;
                }
            }
            return true;
        }

        private static boolean isLetter(int b) {
            return (b >= 'a' && b <= 'z') || (b >= 'A' && b <= 'Z');
        }

        private static boolean isDigit(int b) {
            return b >= '0' && b <= '9';
        }

        private static String wordOf(int k) {
            switch (k) {
                case PRICE: return "price";
                case HUSH: return "hush";
                case LIKE: return "like";
                case NEAR: return "near";
                case TURN: return "turn";
                default: return "twice";
            }
        }
    }

    /** The ROWS as they came. */
    private static final class RowBook {
        private final int[] numbers = new int[MOST_ROWS * NUMBERS];
        private final boolean[] isDeaf = new boolean[MOST_ROWS];
        private final boolean[] isOut = new boolean[MOST_ROWS];
        private final int[] truthOf = new int[MOST_ROWS];
        private int rows;

        int addRow(int a, int b, int c, int d) {
            int row = addDeaf();
            if (row >= 0) {
                isDeaf[row] = false;
                numbers[row * NUMBERS] = a;
                numbers[row * NUMBERS + 1] = b;
                numbers[row * NUMBERS + 2] = c;
                numbers[row * NUMBERS + 3] = d;
            }
            return row;
        }

        int addDeaf() {
            if (rows >= MOST_ROWS) {
                return FULL;
            }
            int row = rows;
            isDeaf[row] = true;
            isOut[row] = false;
            truthOf[row] = 0;
            rows++;
            return row;
        }

        int setOut(int from, int to, boolean out) {
            int changed = 0;
            for (int r = Math.max(from, 0); r <= to && r < rows; r++) {
                if (isOut[r] != out) {
                    isOut[r] = out;
                    changed++;
                }
            }
            return changed;
        }

        int setTruth(int from, int to, int v) {
            int changed = 0;
            for (int r = Math.max(from, 0); r <= to && r < rows; r++) {
                if (truthOf[r] != v) {
                    truthOf[r] = v;
                    changed++;
                }
            }
            return changed;
        }

        boolean isHeard(int row, int hush) {
            if (isDeaf[row] || isOut[row]) {
                return false;
            }
            int sum = 0;
            for (int i = 0; i < NUMBERS; i++) {
                sum += numbers[row * NUMBERS + i];
            }
            return sum >= hush;
        }

        int deafRows() {
            int n = 0;
            for (int r = 0; r < rows; r++) {
                n += isDeaf[r] ? 1 : 0;
            }
            return n;
        }

        int outRows() {
            int n = 0;
            for (int r = 0; r < rows; r++) {
                n += isOut[r] ? 1 : 0;
            }
            return n;
        }
    }

    /** ROWS gathered one by one, their numbers in order, so that MIDDLE and SPREAD are at hand with each. */
    private static final class Gathering {
        private final int[][] sorted = new int[NUMBERS][MOST_ROWS];
        private int rows;
        private int spread;

        void empty() {
            rows = 0;
            spread = 0;
        }

        void take(RowBook book, int row) {
            if (rows >= MOST_ROWS || row < 0 || row >= MOST_ROWS) {
                return;
            }
            for (int i = 0; i < NUMBERS; i++) {
                int[] line = sorted[i];
                int x = book.numbers[row * NUMBERS + i];
                if (rows > 0) {
                    // From all places between the two middle ones the numbers are as far away together;
                    // one of those places is the new middle's, so x alone adds what it lies outside.
                    spread += Math.max(0, Math.max(line[(rows - 1) / 2] - x, x - line[rows / 2]));
                }
                int place = rows;
                while (place > 0 && line[place - 1] > x) {
                    line[place] = line[place - 1];
                    place--;
                }
                line[place] = x;
            }
            rows++;
        }

        void writeMiddle(int[] to, int toAt) {
            if (rows == 0 || toAt < 0 || toAt > to.length - NUMBERS) {
                return;
            }
            for (int i = 0; i < NUMBERS; i++) {
                to[toAt + i] = sorted[i][(rows - 1) / 2];
            }
        }
    }

    /** The STRETCHES cut into PIECES. */
    private static final class Cutting {
        private final int[] first = new int[MOST_ROWS];
        private final int[] size = new int[MOST_ROWS];
        private final int[] spread = new int[MOST_ROWS];
        private final int[] middles = new int[MOST_ROWS * NUMBERS];
        private final int[] stretchOf = new int[MOST_ROWS];
        private final int[] pieceOf = new int[MOST_ROWS];
        // From a ROW to its STRETCH's end: the least cost, and the most ROWS that a first PIECE of it has.
        private final int[] cost = new int[MOST_ROWS + 1];
        private final int[] most = new int[MOST_ROWS];
        private int pieces;
        private int stretches;
        private int total;
        private int heardRows;

        void cut(RowBook book, Gathering gathering, int price, int hush) {
            pieces = 0;
            stretches = 0;
            total = 0;
            heardRows = 0;
            Arrays.fill(pieceOf, NONE);
            int row = 0;
            while (row < book.rows) {
                int end = row;
                while (end < book.rows && book.isHeard(end, hush)) {
                    end++;
                }
                if (end > row) {
                    findCosts(book, gathering, price, row, end);
                    addPieces(book, gathering, row, end);
                    total += cost[row];
                    heardRows += end - row;
                    stretches++;
                }
                row = end + 1;
            }
        }

        private void findCosts(RowBook book, Gathering gathering, int price, int from, int end) {
            cost[end] = 0;
            for (int row = end - 1; row >= from; row--) {
                gathering.empty();
                cost[row] = BEYOND;
                for (int last = row; last < end; last++) {
                    gathering.take(book, last);
                    int with = gathering.spread + price + cost[last + 1];
                    // "<=", for of several ways the one with the longer PIECE ahead is due.
                    if (with <= cost[row]) {
                        cost[row] = with;
                        most[row] = last - row + 1;
                    }
                }
            }
        }

        private void addPieces(RowBook book, Gathering gathering, int from, int end) {
            int row = from;
            while (row < end && pieces < MOST_ROWS) {
                int behind = Math.min(end, row + Math.max(1, most[row]));
                gathering.empty();
                for (int r = row; r < behind; r++) {
                    gathering.take(book, r);
                    pieceOf[r] = pieces;
                }
                first[pieces] = row;
                size[pieces] = behind - row;
                spread[pieces] = gathering.spread;
                stretchOf[pieces] = stretches;
                gathering.writeMiddle(middles, pieces * NUMBERS);
                pieces++;
                row = behind;
            }
        }

        int middleOf(int p, int i) {
            return p >= 0 && p < pieces && i >= 0 && i < NUMBERS ? middles[p * NUMBERS + i] : 0;
        }

        int likeness(int p, int q, int like) {
            return (like - off(middles, p * NUMBERS, middles, q * NUMBERS)) * Math.min(size[p], size[q]);
        }

        boolean doTouch(int p, int q) {
            return Math.abs(p - q) == 1 && stretchOf[p] == stretchOf[q];
        }
    }

    /** What two PIECES bring to the WORTH if one HEAP has both: LIKE, less the turn's price where they TOUCH. */
    private static final class Bonds {
        private final int[][] bond = new int[MOST_HEAPED][MOST_HEAPED];
        private final int[][] link = new int[MOST_HEAPED][MOST_HEAPED];
        // By a set of PIECES (a bit each): what its last one brings to all the others.
        private final int[] gain = new int[1 << MOST_HEAPED];
        private int pieces;

        void tie(Cutting cutting, int like, int turn) {
            pieces = Math.min(cutting.pieces, MOST_HEAPED);
            for (int p = 0; p < pieces; p++) {
                for (int q = p + 1; q < pieces; q++) {
                    int both = cutting.likeness(p, q, like) - (cutting.doTouch(p, q) ? turn : 0);
                    bond[p][q] = both;
                    bond[q][p] = both;
                }
            }
            for (int last = 0; last < pieces; last++) {
                fillGains(last);
            }
        }

        private void fillGains(int last) {
            int one = 1 << last;
            gain[one] = 0;
            for (int p = 0; p < last; p++) {
                int only = 1 << p;
                for (int lesser = 0; lesser < only; lesser++) {
                    gain[one | only | lesser] = gain[one | lesser] + bond[p][last];
                }
            }
        }

        int gainOf(int last, int others) {
            int set = (1 << last) | others;
            return set >= 0 && set < gain.length ? gain[set] : 0;
        }

        /** Makes the heaping JOINED. */
        void join(Heaping heaping) {
            for (int p = 0; p < pieces; p++) {
                heaping.heapOf[p] = p;
                for (int q = 0; q < pieces; q++) {
                    link[p][q] = bond[p][q];
                }
            }
            // Each turn but the last joins two, so there are no more turns than PIECES.
            boolean isJoined = true;
            for (int turn = 0; turn < pieces && isJoined; turn++) {
                isJoined = joinTwo(heaping);
            }
            heaping.numberHeaps(pieces);
            heaping.value = worthOf(heaping);
        }

        /** While it joins, a HEAP goes by its first PIECE. */
        private boolean joinTwo(Heaping heaping) {
            int one = -1;
            int other = -1;
            int greatest = 0;
            for (int a = 0; a < pieces; a++) {
                for (int b = a + 1; b < pieces; b++) {
                    if (heaping.heapOf[a] == a && heaping.heapOf[b] == b && link[a][b] > greatest) {
                        greatest = link[a][b];
                        one = a;
                        other = b;
                    }
                }
            }
            if (one < 0 || other < 0) {
                return false;
            }
            for (int p = 0; p < pieces; p++) {
                link[one][p] += link[other][p];
                link[p][one] = link[one][p];
                if (heaping.heapOf[p] == other) {
                    heaping.heapOf[p] = one;
                }
            }
            return true;
        }

        private int worthOf(Heaping heaping) {
            int sum = 0;
            for (int p = 0; p < pieces; p++) {
                for (int q = p + 1; q < pieces; q++) {
                    sum += heaping.heapOf[p] == heaping.heapOf[q] ? bond[p][q] : 0;
                }
            }
            return sum;
        }
    }

    /** One HEAPING: the HEAP of each PIECE, its WORTH, and the MIDDLES of its HEAPS if they were asked. */
    private static final class Heaping {
        private final int[] heapOf = new int[MOST_HEAPED];
        private final int[] renamed = new int[MOST_HEAPED];
        private final int[] middles = new int[MOST_HEAPED * NUMBERS];
        private int heaps;
        private int value;

        /** Numbers the HEAPS, that went by any of 0 .. 8, from 0 as they come. */
        void numberHeaps(int pieces) {
            Arrays.fill(renamed, NONE);
            heaps = 0;
            for (int p = 0; p < pieces && p < MOST_HEAPED; p++) {
                int old = heapOf[p];
                if (old >= 0 && old < MOST_HEAPED && renamed[old] == NONE) {
                    renamed[old] = heaps;
                    heaps++;
                }
                heapOf[p] = old >= 0 && old < MOST_HEAPED ? renamed[old] : 0;
            }
        }

        void findMiddles(RowBook book, Gathering gathering, Cutting cutting) {
            for (int h = 0; h < heaps && h < MOST_HEAPED; h++) {
                gathering.empty();
                for (int r = 0; r < book.rows && r < MOST_ROWS; r++) {
                    int p = cutting.pieceOf[r];
                    if (p >= 0 && p < MOST_HEAPED && heapOf[p] == h) {
                        gathering.take(book, r);
                    }
                }
                gathering.writeMiddle(middles, h * NUMBERS);
            }
        }

        int middleOf(int heap, int i) {
            return heap >= 0 && heap < heaps && i >= 0 && i < NUMBERS ? middles[heap * NUMBERS + i] : 0;
        }

        int membersOf(int heap, int pieces) {
            int set = 0;
            for (int p = 0; p < pieces && p < MOST_HEAPED; p++) {
                set |= heapOf[p] == heap ? 1 << p : 0;
            }
            return set;
        }

        /** The two HEAPS that a PIECE is at once, as the lesser times 9 and the greater; NONE. */
        int twoInOne(Cutting cutting, int p, int twice) {
            if (p < 0 || p >= MOST_HEAPED) {
                return NONE;
            }
            int own = heapOf[p];
            int found = NONE;
            int least = BEYOND;
            for (int a = 0; a < heaps; a++) {
                for (int b = a + 1; b < heaps; b++) {
                    int far = a == own || b == own ? BEYOND : offOfTwo(cutting, p, a, b);
                    if (far < least) {
                        least = far;
                        found = a * MOST_HEAPED + b;
                    }
                }
            }
            int alone = off(cutting.middles, p * NUMBERS, middles, own * NUMBERS);
            return found != NONE && alone - least >= twice ? found : NONE;
        }

        private int offOfTwo(Cutting cutting, int p, int a, int b) {
            int sum = 0;
            for (int i = 0; i < NUMBERS; i++) {
                int both = Math.min(LOUDEST, middleOf(a, i) + middleOf(b, i));
                sum += Math.abs(both - cutting.middleOf(p, i));
            }
            return sum;
        }
    }

    /** All HEAPINGS gone through in their order: BEST, and those NEAR it. */
    private static final class AllHeapings {
        private final Heaping best = new Heaping();
        private final int[] heapOf = new int[MOST_HEAPED];
        private final int[] members = new int[MOST_HEAPED];
        private boolean isForNear;
        private int least;
        private int nearOnes;
        private int fewest;
        private int most;
        // Two PIECES are a bit each: those in one HEAP in all NEAR ones, and those in any.
        private long always;
        private long ever;

        void findBest(Bonds bonds) {
            isForNear = false;
            best.value = -BEYOND;
            Arrays.fill(members, 0);
            deal(this, bonds, 0, 0, 0, 0L);
        }

        void findNear(Bonds bonds, int near) {
            isForNear = true;
            least = best.value - near;
            nearOnes = 0;
            fewest = MOST_HEAPED;
            most = 0;
            always = -1L;
            ever = 0L;
            Arrays.fill(members, 0);
            deal(this, bonds, 0, 0, 0, 0L);
        }

        private static void deal(AllHeapings all, Bonds bonds, int piece, int heaps, int worth, long pairs) {
            if (piece >= bonds.pieces || piece >= MOST_HEAPED) {
                all.meet(bonds.pieces, heaps, worth, pairs);
                return;
            }
            for (int h = 0; h <= heaps && h < MOST_HEAPED; h++) {
                int others = all.members[h];
                all.heapOf[piece] = h;
                all.members[h] = others | 1 << piece;
                deal(all, bonds, piece + 1, Math.max(heaps, h + 1), worth + bonds.gainOf(piece, others),
                        pairs | (long) others << placeOfPairs(piece));
                all.members[h] = others;
            }
        }

        private void meet(int pieces, int heaps, int worth, long pairs) {
            if (isForNear) {
                meetNear(heaps, worth, pairs);
            } else if (worth > best.value) {
                best.value = worth;
                best.heaps = heaps;
                for (int p = 0; p < pieces && p < MOST_HEAPED; p++) {
                    best.heapOf[p] = heapOf[p];
                }
            }
        }

        private void meetNear(int heaps, int worth, long pairs) {
            if (worth >= least) {
                nearOnes++;
                fewest = Math.min(fewest, heaps);
                most = Math.max(most, heaps);
                always &= pairs;
                ever |= pairs;
            }
        }

        /** The bit of a PIECE with PIECE 0; with the next ones it has the bits behind. */
        private static int placeOfPairs(int piece) {
            return piece * (piece - 1) / 2;
        }

        int sureness(int p, int q) {
            long pair = 1L << (placeOfPairs(Math.max(p, q)) + Math.min(p, q));
            if ((always & pair) != 0) {
                return 1;
            }
            return (ever & pair) == 0 ? 0 : 2;
        }
    }

    /** The VOICES KEPT. */
    private static final class KeptVoices {
        private static final int ROOM = 6;

        private final int[] names = new int[ROOM];
        private final int[] middles = new int[ROOM * NUMBERS];
        // By a set of PIECES (a bit each): their OFFS to one VOICE, added.
        private final int[] offs = new int[1 << MOST_HEAPED];
        private int voices;

        boolean has(int voice) {
            return voice >= 0 && voice < voices && voice < ROOM;
        }

        int add(Heaping heaping, int heap, int name) {
            if (voices >= ROOM) {
                return FULL;
            }
            int voice = voices;
            names[voice] = name;
            for (int i = 0; i < NUMBERS; i++) {
                middles[voice * NUMBERS + i] = heaping.middleOf(heap, i);
            }
            voices++;
            return voice;
        }

        int remove(int voice) {
            if (!has(voice)) {
                return BAD;
            }
            int name = names[voice];
            for (int v = voice; v < voices - 1; v++) {
                names[v] = names[v + 1];
                for (int i = 0; i < NUMBERS; i++) {
                    middles[v * NUMBERS + i] = middles[(v + 1) * NUMBERS + i];
                }
            }
            voices--;
            return name;
        }

        int nearestTo(Heaping heaping, int heap, int like) {
            int found = NONE;
            int least = like;
            for (int v = voices - 1; v >= 0; v--) {
                int far = off(middles, v * NUMBERS, heaping.middles, heap * NUMBERS);
                // Backwards and with "<=", so that of several the first is left.
                if (far <= least) {
                    least = far;
                    found = v;
                }
            }
            return found;
        }

        /** In how many deals of as many PIECES as the set has they are off the VOICE as much at most; or of all. */
        int dealsOf(Cutting cutting, int set, int voice, boolean isOfAll) {
            int pieces = Math.min(cutting.pieces, MOST_HEAPED);
            fillOffs(cutting, pieces, voice);
            if (set < 0 || set >= 1 << pieces) {
                return 0;
            }
            int chosen = Integer.bitCount(set);
            int deals = 0;
            for (int other = 0; other < 1 << pieces; other++) {
                if (Integer.bitCount(other) == chosen && (isOfAll || offs[other] <= offs[set])) {
                    deals++;
                }
            }
            return deals;
        }

        private void fillOffs(Cutting cutting, int pieces, int voice) {
            offs[0] = 0;
            for (int p = 0; p < pieces; p++) {
                int far = off(cutting.middles, p * NUMBERS, middles, voice * NUMBERS);
                int only = 1 << p;
                for (int others = 0; others < only; others++) {
                    offs[only | others] = offs[others] + far;
                }
            }
        }
    }

    /** The WORDS, hung on PIECES. */
    private static final class WordBook {
        private static final int ROOM = 12;

        private final int[] from = new int[ROOM];
        private final int[] to = new int[ROOM];
        private int words;

        int add(int first, int last) {
            if (words >= ROOM) {
                return FULL;
            }
            from[words] = first;
            to[words] = last;
            words++;
            return words - 1;
        }

        int pieceWithMost(Cutting cutting, int word) {
            int found = NONE;
            int most = 0;
            for (int p = 0; p < cutting.pieces; p++) {
                int shared = sharedRows(cutting, word, p);
                if (shared > most) {
                    most = shared;
                    found = p;
                }
            }
            return found;
        }

        int piecesWithSome(Cutting cutting, int word) {
            int n = 0;
            for (int p = 0; p < cutting.pieces; p++) {
                n += sharedRows(cutting, word, p) > 0 ? 1 : 0;
            }
            return n;
        }

        private int sharedRows(Cutting cutting, int word, int p) {
            int begin = Math.max(from[word], cutting.first[p]);
            int last = Math.min(to[word], cutting.first[p] + cutting.size[p] - 1);
            return Math.max(0, last - begin + 1);
        }
    }

    /** What the HEAPS make of the ROWS, against the TRUTH. */
    private static final class Verdict {
        static final int PEOPLE = 5;
        private final int[][] together = new int[MOST_HEAPED][PEOPLE];
        // By a set of TRUTHS (a bit each): the most ROWS that are right where only these are given HEAPS.
        private final int[] right = new int[1 << PEOPLE];

        int missed(RowBook book, Cutting cutting) {
            int n = 0;
            for (int r = 0; r < book.rows; r++) {
                n += book.truthOf[r] > 0 && cutting.pieceOf[r] == NONE ? 1 : 0;
            }
            return n;
        }

        int madeUp(RowBook book, Cutting cutting) {
            int n = 0;
            for (int r = 0; r < book.rows; r++) {
                n += book.truthOf[r] == 0 && cutting.pieceOf[r] != NONE ? 1 : 0;
            }
            return n;
        }

        int wrong(RowBook book, Cutting cutting, Heaping heaping) {
            int others = countTogether(book, cutting, heaping);
            Arrays.fill(right, 0);
            for (int h = 0; h < heaping.heaps && h < MOST_HEAPED; h++) {
                // Downwards, so that the lesser sets do not have this HEAP yet: it is given once.
                for (int set = right.length - 1; set > 0; set--) {
                    giveOne(set, together[h]);
                }
            }
            return others - right[right.length - 1];
        }

        private void giveOne(int set, int[] rowsOf) {
            for (int t = 0; t < PEOPLE; t++) {
                int rest = set & ~(1 << t);
                if (rest != set) {
                    right[set] = Math.max(right[set], right[rest] + rowsOf[t]);
                }
            }
        }

        private int countTogether(RowBook book, Cutting cutting, Heaping heaping) {
            for (int h = 0; h < MOST_HEAPED; h++) {
                Arrays.fill(together[h], 0);
            }
            int n = 0;
            for (int r = 0; r < book.rows; r++) {
                int p = cutting.pieceOf[r];
                int t = book.truthOf[r] - 1;
                if (p >= 0 && p < MOST_HEAPED && t >= 0 && t < PEOPLE) {
                    together[heaping.heapOf[p]][t]++;
                    n++;
                }
            }
            return n;
        }
    }

    /** The KINDS of WEIGHT: each body asks the KIND above it and leaves its mark in THE TRACE. */
    private static final class Kinds {
        static final int KINDS = 8;
        private long asked;

        int weigh(int kind, Cutting cutting, int p, int voices) {
            switch (kind) {
                case 0: return span(cutting, p);
                case 1: return voice(cutting, p);
                case 2: return talk(cutting, p);
                case 3: return two(cutting, p);
                case 4: return brief(cutting, p);
                case 5: return far(cutting, p);
                case 6: return known(cutting, p, voices);
                default: return noise(cutting, p);
            }
        }

        private int span(Cutting cutting, int p) {
            asked += 1;
            return cutting.size[p];
        }

        private int voice(Cutting cutting, int p) {
            asked += 10;
            return span(cutting, p) + cutting.middleOf(p, 0);
        }

        private int talk(Cutting cutting, int p) {
            asked += 100;
            return voice(cutting, p) + cutting.spread[p];
        }

        private int two(Cutting cutting, int p) {
            asked += 1000;
            return (talk(cutting, p) + 1) / 2;
        }

        private int brief(Cutting cutting, int p) {
            asked += 10000;
            return Math.max(0, talk(cutting, p) - 3);
        }

        private int far(Cutting cutting, int p) {
            asked += 100000;
            return voice(cutting, p) / 3;
        }

        private int known(Cutting cutting, int p, int voices) {
            asked += 1000000;
            return voice(cutting, p) + 7 * voices;
        }

        private int noise(Cutting cutting, int p) {
            asked += 10000000;
            int up = span(cutting, p);
            return up * up % 89;
        }
    }
}

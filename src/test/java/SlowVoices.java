import java.util.ArrayList;
import java.util.Arrays;
import java.util.List;
import java.util.regex.Matcher;
import java.util.regex.Pattern;

/** The document told a second time, as plainly and slowly as can be, for runs too long to work out by hand. */
final class SlowVoices {
    private static final int BAD = -1, STATE = -2, FULL = -3, NONE = -9, NO = -1000000;
    private static final List<String> WORDS = List.of("price", "hush", "like", "near", "turn", "twice");
    private static final int[] MOST = {999, 399, 399, 9999, 999, 399};

    private static final class Row {
        int[] numbers;
        boolean out;
        int truth;
        int shown;
    }

    private static final class Piece {
        List<Integer> rows = new ArrayList<>();
        int stretch;
        int spread;
        int[] middle;
    }

    private String text = "";
    private int[] rule = {20, 10, 40, 0, 0, 10};
    private final List<Row> rows = new ArrayList<>();
    private final List<int[]> words = new ArrayList<>();
    private final List<int[]> voices = new ArrayList<>();
    private final List<Integer> names = new ArrayList<>();
    private int shownRows = -1;
    private long trace;
    // Kept until something changes.
    private List<Piece> cut;
    private int stretches;
    private int cost;
    private int[][] bonds;
    private List<int[]> heapings;
    private int[] best;
    private int[] joined;
    private List<int[]> near;

    private void changed() {
        cut = null;
        bonds = null;
        heapings = null;
        best = null;
        joined = null;
        near = null;
    }

    private static boolean in(int x, int a, int b) {
        return a <= x && x <= b;
    }

    // ---- rows, rules

    int type(long v, int n) {
        if (!in(n, 1, 8)) {
            return BAD;
        }
        if (text.length() + n > 200) {
            return FULL;
        }
        StringBuilder more = new StringBuilder();
        for (int i = 0; i < n; i++) {
            more.insert(0, (char) (v & 255));
            v >>>= 8;
        }
        text += more;
        return text.length();
    }

    int clear() {
        int n = text.length();
        text = "";
        return n;
    }

    int rules() {
        Matcher m = Pattern.compile("[a-zA-Z]+|[0-9]+|;|[^ ]", Pattern.DOTALL).matcher(text);
        int[] told = {-1, -1, -1, -1, -1, -1};
        int items = 0;
        int due = 0;
        int which = -1;
        while (m.find()) {
            String token = m.group();
            if (due == 0) {
                which = WORDS.indexOf(token);
                if (which < 0 || told[which] >= 0) {
                    return -10 - m.start();
                }
            } else if (due == 1) {
                if (!token.matches("0|[1-9][0-9]{0,3}") || Integer.parseInt(token) > MOST[which]) {
                    return -10 - m.start();
                }
                told[which] = Integer.parseInt(token);
            } else {
                if (!token.equals(";")) {
                    return -10 - m.start();
                }
                items++;
            }
            due = (due + 1) % 3;
        }
        if (due != 0) {
            return -10 - text.length();
        }
        int[] first = {20, 10, 40, 0, 0, 10};
        for (int k = 0; k < 6; k++) {
            rule[k] = told[k] < 0 ? first[k] : told[k];
        }
        text = "";
        changed();
        return items;
    }

    int rule(int what) {
        return in(what, 0, 5) ? rule[what] : BAD;
    }

    int row(int a, int b, int c, int d) {
        int[] numbers = {a, b, c, d};
        for (int x : numbers) {
            if (!in(x, 0, 99)) {
                return BAD;
            }
        }
        if (rows.size() == 48) {
            return FULL;
        }
        Row row = new Row();
        row.numbers = numbers;
        rows.add(row);
        changed();
        return rows.size() - 1;
    }

    int deaf(int n) {
        if (!in(n, 1, 9)) {
            return BAD;
        }
        if (rows.size() + n > 48) {
            return FULL;
        }
        for (int i = 0; i < n; i++) {
            rows.add(new Row());
        }
        changed();
        return rows.size();
    }

    private boolean areRows(int from, int to) {
        return in(from, 0, rows.size() - 1) && in(to, from, rows.size() - 1);
    }

    int out(int from, int to, int out) {
        if (!areRows(from, to) || !in(out, 0, 1)) {
            return BAD;
        }
        int n = 0;
        for (Row row : rows.subList(from, to + 1)) {
            n += row.out != (out == 1) ? 1 : 0;
            row.out = out == 1;
        }
        changed();
        return n;
    }

    int hush() {
        int n = rows.size();
        rows.clear();
        words.clear();
        shownRows = -1;
        changed();
        return n;
    }

    // ---- pieces

    private boolean heard(Row row) {
        return row.numbers != null && !row.out && Arrays.stream(row.numbers).sum() >= rule[1];
    }

    private int[] middleOf(List<Integer> some) {
        int[] middle = new int[4];
        for (int i = 0; i < 4; i++) {
            int k = i;
            int[] sorted = some.stream().mapToInt(r -> rows.get(r).numbers[k]).sorted().toArray();
            middle[i] = sorted[(sorted.length + 1) / 2 - 1];
        }
        return middle;
    }

    private static int off(int[] a, int[] b) {
        int sum = 0;
        for (int i = 0; i < 4; i++) {
            sum += Math.abs(a[i] - b[i]);
        }
        return sum;
    }

    private Piece pieceOf(int from, int end) {
        Piece piece = new Piece();
        for (int r = from; r < end; r++) {
            piece.rows.add(r);
        }
        piece.middle = middleOf(piece.rows);
        for (int r : piece.rows) {
            piece.spread += off(rows.get(r).numbers, piece.middle);
        }
        return piece;
    }

    private static int costOf(List<Piece> pieces, int price) {
        return pieces.stream().mapToInt(p -> p.spread + price).sum();
    }

    /** The best cuts from each ROW to the STRETCH's end, all compared as whole lists. */
    private List<Piece> bestCut(int from, int end) {
        List<List<Piece>> best = new ArrayList<>();
        for (int r = from; r <= end; r++) {
            best.add(new ArrayList<>());
        }
        for (int r = end - 1; r >= from; r--) {
            List<Piece> found = null;
            for (int e = r + 1; e <= end; e++) {
                List<Piece> way = new ArrayList<>();
                way.add(pieceOf(r, e));
                way.addAll(best.get(e - from));
                if (found == null || isBefore(way, found)) {
                    found = way;
                }
            }
            best.set(r - from, found);
        }
        return best.get(0);
    }

    private boolean isBefore(List<Piece> a, List<Piece> b) {
        int less = costOf(b, rule[0]) - costOf(a, rule[0]);
        for (int i = 0; less == 0 && i < a.size() && i < b.size(); i++) {
            less = a.get(i).rows.size() - b.get(i).rows.size();
        }
        return less > 0;
    }

    private List<Piece> cut() {
        if (cut == null) {
            cut = new ArrayList<>();
            stretches = 0;
            int from = 0;
            for (int r = 0; r <= rows.size(); r++) {
                if (r == rows.size() || !heard(rows.get(r))) {
                    if (from < r) {
                        for (Piece piece : bestCut(from, r)) {
                            piece.stretch = stretches;
                            cut.add(piece);
                        }
                        stretches++;
                    }
                    from = r + 1;
                }
            }
            cost = costOf(cut, rule[0]);
        }
        return cut;
    }

    private boolean isPiece(int p) {
        return in(p, 0, cut().size() - 1);
    }

    int pieces(int what) {
        int n = cut().size();
        int[] answers = {n, stretches, cost, (int) rows.stream().filter(this::heard).count()};
        return in(what, 0, 3) ? answers[what] : BAD;
    }

    int piece(int p, int what) {
        if (!isPiece(p) || !in(what, 0, 6)) {
            return BAD;
        }
        Piece piece = cut().get(p);
        int[] m = piece.middle;
        return new int[] {piece.rows.get(0), piece.rows.size(), piece.spread, m[0], m[1], m[2], m[3]}[what];
    }

    int of(int row) {
        if (!in(row, 0, rows.size() - 1)) {
            return BAD;
        }
        for (int p = 0; p < cut().size(); p++) {
            if (cut().get(p).rows.contains(row)) {
                return p;
            }
        }
        return NONE;
    }

    int like(int p, int q) {
        if (!isPiece(p) || !isPiece(q) || p == q) {
            return NO;
        }
        Piece a = cut().get(p);
        Piece b = cut().get(q);
        return (rule[2] - off(a.middle, b.middle)) * Math.min(a.rows.size(), b.rows.size());
    }

    // ---- heaps

    private boolean isState() {
        return cut().size() > 9;
    }

    private int bond(int p, int q) {
        if (bonds == null) {
            bonds = new int[cut().size()][cut().size()];
            for (int a = 0; a < bonds.length; a++) {
                for (int b = 0; b < bonds.length; b++) {
                    boolean touch = Math.abs(a - b) == 1 && cut.get(a).stretch == cut.get(b).stretch;
                    bonds[a][b] = like(a, b) - (touch ? rule[4] : 0);
                }
            }
        }
        return bonds[p][q];
    }

    private int worthOf(int[] heaping) {
        int sum = 0;
        for (int p = 0; p < heaping.length; p++) {
            for (int q = 0; q < p; q++) {
                sum += heaping[p] == heaping[q] ? bond(p, q) : 0;
            }
        }
        return sum;
    }

    private List<int[]> heapings() {
        if (heapings == null) {
            List<int[]> all = new ArrayList<>();
            all.add(new int[0]);
            for (int p = 0; p < cut().size(); p++) {
                List<int[]> longer = new ArrayList<>();
                for (int[] h : all) {
                    for (int next = 0; next <= heapsOf(h); next++) {
                        int[] more = Arrays.copyOf(h, p + 1);
                        more[p] = next;
                        longer.add(more);
                    }
                }
                all = longer;
            }
            // The last place of each tells its WORTH.
            heapings = new ArrayList<>();
            for (int[] h : all) {
                int[] told = Arrays.copyOf(h, h.length + 1);
                told[h.length] = worthOf(h);
                heapings.add(told);
            }
        }
        return heapings;
    }

    private static int heapsOf(int[] heaping) {
        int heaps = 0;
        for (int h : heaping) {
            heaps = Math.max(heaps, h + 1);
        }
        return heaps;
    }

    private int[] best() {
        if (best != null) {
            return best;
        }
        int[] found = null;
        int last = cut().size();
        for (int[] h : heapings()) {
            if (found == null || h[last] > found[last]) {
                found = h;
            }
        }
        best = Arrays.copyOf(found, last);
        return best;
    }

    private int[] joined() {
        if (joined != null) {
            return joined;
        }
        List<List<Integer>> heaps = new ArrayList<>();
        for (int p = 0; p < cut().size(); p++) {
            heaps.add(new ArrayList<>(List.of(p)));
        }
        while (true) {
            int greatest = 0;
            int one = -1;
            int other = -1;
            for (int a = 0; a < heaps.size(); a++) {
                for (int b = a + 1; b < heaps.size(); b++) {
                    int sum = 0;
                    for (int p : heaps.get(a)) {
                        for (int q : heaps.get(b)) {
                            sum += bond(p, q);
                        }
                    }
                    if (sum > greatest) {
                        greatest = sum;
                        one = a;
                        other = b;
                    }
                }
            }
            if (one < 0) {
                break;
            }
            heaps.get(one).addAll(heaps.remove(other));
        }
        int[] heaping = new int[cut().size()];
        for (int h = 0; h < heaps.size(); h++) {
            for (int p : heaps.get(h)) {
                heaping[p] = h;
            }
        }
        joined = heaping;
        return heaping;
    }

    private int[] heaping(int way) {
        return way == 0 ? best() : joined();
    }

    private List<int[]> nearOnes() {
        if (near != null) {
            return near;
        }
        int last = cut().size();
        int least = worthOf(best()) - rule[3];
        near = new ArrayList<>();
        for (int[] h : heapings()) {
            if (h[last] >= least) {
                near.add(Arrays.copyOf(h, last));
            }
        }
        return near;
    }

    private int[] heapMiddle(int heap) {
        int[] best = best();
        List<Integer> some = new ArrayList<>();
        for (int p = 0; p < best.length; p++) {
            if (best[p] == heap) {
                some.addAll(cut().get(p).rows);
            }
        }
        return middleOf(some);
    }

    int heap(int p, int way) {
        if (!isPiece(p) || !in(way, 0, 1)) {
            return BAD;
        }
        return isState() ? STATE : heaping(way)[p];
    }

    int worth(int way) {
        return !in(way, 0, 1) || isState() ? NO : worthOf(heaping(way));
    }

    int near(int what) {
        if (!in(what, 0, 4)) {
            return BAD;
        }
        if (isState()) {
            return STATE;
        }
        if (what >= 3) {
            return heapsOf(heaping(what - 3));
        }
        List<int[]> near = nearOnes();
        if (what == 0) {
            return near.size();
        }
        var counts = near.stream().mapToInt(SlowVoices::heapsOf);
        return what == 1 ? counts.min().getAsInt() : counts.max().getAsInt();
    }

    int sure(int p, int q) {
        if (!isPiece(p) || !isPiece(q) || p == q) {
            return BAD;
        }
        if (isState()) {
            return STATE;
        }
        List<int[]> near = nearOnes();
        long together = near.stream().filter(h -> h[p] == h[q]).count();
        return together == 0 ? 0 : together == near.size() ? 1 : 2;
    }

    private int refusedHeap(int heap) {
        return isState() ? STATE : heap < heapsOf(best()) ? 0 : BAD;
    }

    int middle(int heap, int i) {
        if (!in(heap, 0, 8) || !in(i, 0, 3)) {
            return BAD;
        }
        int refused = refusedHeap(heap);
        return refused < 0 ? refused : heapMiddle(heap)[i];
    }

    int twice(int p, int what) {
        if (!isPiece(p) || !in(what, 0, 1)) {
            return BAD;
        }
        if (isState()) {
            return STATE;
        }
        int own = best()[p];
        int heaps = heapsOf(best());
        int[] mine = cut().get(p).middle;
        int limit = off(mine, heapMiddle(own)) - rule[5];
        int[] found = null;
        for (int a = 0; a < heaps; a++) {
            for (int b = a + 1; b < heaps; b++) {
                if (a == own || b == own) {
                    continue;
                }
                int[] sum = new int[4];
                for (int i = 0; i < 4; i++) {
                    sum[i] = Math.min(99, heapMiddle(a)[i] + heapMiddle(b)[i]);
                }
                int far = off(sum, mine);
                if (far <= limit && (found == null || far < found[2])) {
                    found = new int[] {a, b, far};
                }
            }
        }
        return found == null ? NONE : found[what];
    }

    // ---- voices, words

    int keep(int heap, int name) {
        if (!in(heap, 0, 8) || !in(name, 1, 99)) {
            return BAD;
        }
        int refused = refusedHeap(heap);
        if (refused < 0) {
            return refused;
        }
        if (voices.size() == 6) {
            return FULL;
        }
        voices.add(heapMiddle(heap));
        names.add(name);
        return voices.size() - 1;
    }

    int forget(int voice) {
        if (!in(voice, 0, voices.size() - 1)) {
            return BAD;
        }
        voices.remove(voice);
        return names.remove(voice);
    }

    int back(int heap, int what) {
        if (!in(heap, 0, 8) || !in(what, 0, 1)) {
            return BAD;
        }
        int refused = refusedHeap(heap);
        if (refused < 0) {
            return refused;
        }
        int[] middle = heapMiddle(heap);
        for (int far = 0; far <= rule[2]; far++) {
            for (int v = 0; v < voices.size(); v++) {
                if (off(voices.get(v), middle) == far) {
                    return what == 0 ? names.get(v) : v;
                }
            }
        }
        return NONE;
    }

    int odds(int heap, int voice, int what) {
        if (!in(heap, 0, 8) || !in(voice, 0, voices.size() - 1) || !in(what, 0, 1)) {
            return BAD;
        }
        int refused = refusedHeap(heap);
        if (refused < 0) {
            return refused;
        }
        int[] best = best();
        int size = 0;
        int most = 0;
        for (int p = 0; p < best.length; p++) {
            if (best[p] == heap) {
                size++;
                most += off(cut().get(p).middle, voices.get(voice));
            }
        }
        return ways(0, size, what == 0 ? most : Integer.MAX_VALUE, voices.get(voice));
    }

    /** In how many ways so many PIECES from p on are off so much at most. */
    private int ways(int p, int left, int most, int[] voice) {
        if (left == 0) {
            return most >= 0 ? 1 : 0;
        }
        if (p == cut().size()) {
            return 0;
        }
        return ways(p + 1, left - 1, most - off(cut().get(p).middle, voice), voice) + ways(p + 1, left, most, voice);
    }

    private int heapOfRow(int row) {
        int p = of(row);
        return p < 0 ? NONE : best()[p];
    }

    int show() {
        if (isState()) {
            return STATE;
        }
        for (int r = 0; r < rows.size(); r++) {
            rows.get(r).shown = heapOfRow(r);
        }
        shownRows = rows.size();
        return shownRows;
    }

    int otherwise() {
        if (shownRows < 0 || isState()) {
            return STATE;
        }
        int n = 0;
        for (int r = 0; r < shownRows; r++) {
            n += rows.get(r).shown != heapOfRow(r) ? 1 : 0;
        }
        return n;
    }

    int word(int from, int to) {
        if (!areRows(from, to)) {
            return BAD;
        }
        if (words.size() == 12) {
            return FULL;
        }
        words.add(new int[] {from, to});
        return words.size() - 1;
    }

    int hung(int word, int what) {
        if (!in(word, 0, words.size() - 1) || !in(what, 0, 1)) {
            return BAD;
        }
        int[] shared = new int[cut().size()];
        for (int r = words.get(word)[0]; r <= words.get(word)[1]; r++) {
            if (of(r) >= 0) {
                shared[of(r)]++;
            }
        }
        if (what == 1) {
            return (int) Arrays.stream(shared).filter(n -> n > 0).count();
        }
        int most = Arrays.stream(shared).max().orElse(0);
        for (int p = 0; most > 0 && p < shared.length; p++) {
            if (shared[p] == most) {
                return p;
            }
        }
        return NONE;
    }

    int truth(int from, int to, int v) {
        if (!areRows(from, to) || !in(v, 0, 5)) {
            return BAD;
        }
        int n = 0;
        for (Row row : rows.subList(from, to + 1)) {
            n += row.truth != v ? 1 : 0;
            row.truth = v;
        }
        return n;
    }

    int errors(int what) {
        if (!in(what, 0, 2)) {
            return BAD;
        }
        if (what == 2) {
            return isState() ? STATE : wrong(1, new int[6]);
        }
        return (int) rows.stream().filter(r -> what == 0 ? r.truth > 0 && !heard(r) : r.truth == 0 && heard(r)).count();
    }

    /** All ways to give each TRUTH from t on a HEAP that no other has, or none. */
    private int wrong(int t, int[] heapGiven) {
        if (t > 5) {
            int n = 0;
            for (int r = 0; r < rows.size(); r++) {
                Row row = rows.get(r);
                n += heard(row) && row.truth > 0 && heapGiven[row.truth] != heapOfRow(r) + 1 ? 1 : 0;
            }
            return n;
        }
        int least = Integer.MAX_VALUE;
        for (int h = 0; h <= heapsOf(best()); h++) {
            boolean free = true;
            for (int other = 1; other < t; other++) {
                free &= h == 0 || heapGiven[other] != h;
            }
            if (free) {
                heapGiven[t] = h;
                least = Math.min(least, wrong(t + 1, heapGiven));
                heapGiven[t] = 0;
            }
        }
        return least;
    }

    int weight(int kind, int p) {
        return in(kind, 0, 7) && isPiece(p) ? ask(kind, p) : BAD;
    }

    private int ask(int kind, int p) {
        int[] above = {-1, 0, 1, 2, 2, 1, 1, 0};
        long[] marks = {1, 10, 100, 1000, 10000, 100000, 1000000, 10000000};
        trace += marks[kind];
        int up = kind == 0 ? 0 : ask(above[kind], p);
        Piece piece = cut().get(p);
        return switch (kind) {
            case 0 -> piece.rows.size();
            case 1 -> up + piece.middle[0];
            case 2 -> up + piece.spread;
            case 3 -> up - up / 2;
            case 4 -> up > 3 ? up - 3 : 0;
            case 5 -> up / 3;
            case 6 -> up + 7 * voices.size();
            default -> up * up % 89;
        };
    }

    int count(int what) {
        return switch (what) {
            case 0 -> rows.size();
            case 1 -> (int) rows.stream().filter(r -> r.numbers == null).count();
            case 2 -> (int) rows.stream().filter(r -> r.out).count();
            case 3 -> voices.size();
            case 4 -> words.size();
            case 5 -> text.length();
            default -> BAD;
        };
    }

    long trace() {
        return trace;
    }
}

/** Each number that a call takes: the least and the greatest that are told are taken, those just beyond are not. */
public final class ArgumentsTest {
    private static final int BAD = VoiceHeaps.BAD, NO = VoiceHeaps.NO;

    private interface Call {
        int on(VoiceHeaps x, int w);
    }

    public static void main(String[] args) {
        rowsAndRules();
        pieces();
        heaps();
        heapsOfNine();
        voices();
        words();
        rowsFromTo();
        pairsOfRows();
        rowsAndPiecesThatMove();
        Check.end();
    }

    /** From low to high none is BAD; those just beyond, and far beyond, are. */
    private static void within(String what, int scene, int low, int high, int refused, Call call) {
        String label = what + ", " + Scenes.NAMES[scene] + ", ";
        for (int w = low; w <= high; w++) {
            int answer = call.on(Scenes.made(scene), w);
            Check.holds(label + w + " answered " + answer, answer != refused && answer != VoiceHeaps.FULL);
        }
        for (int w : new int[] {low - 1, high + 1, low - 256, high + 256, low - 65536, high + 65536,
            Integer.MIN_VALUE, Integer.MIN_VALUE + high, Integer.MAX_VALUE - low, Integer.MAX_VALUE}) {
            Check.due(label + w, call.on(Scenes.made(scene), w), refused);
        }
    }

    private static void rowsAndRules() {
        within("2: type", Scenes.RICH, 1, 8, BAD, (x, w) -> x.type(-1L, w));
        within("5: rule", Scenes.RICH, 0, 5, BAD, (x, w) -> x.rule(w));
        within("6: row, a", Scenes.RICH, 0, 99, BAD, (x, w) -> x.row(w, 0, 0, 0));
        within("6: row, b", Scenes.RICH, 0, 99, BAD, (x, w) -> x.row(0, w, 0, 0));
        within("6: row, c", Scenes.RICH, 0, 99, BAD, (x, w) -> x.row(0, 0, w, 0));
        within("6: row, d", Scenes.RICH, 0, 99, BAD, (x, w) -> x.row(0, 0, 0, w));
        within("7: deaf", Scenes.RICH, 1, 9, BAD, (x, w) -> x.deaf(w));
        within("8: out, out", Scenes.RICH, 0, 1, BAD, (x, w) -> x.out(0, 14, w));
        within("10: pieces", Scenes.RICH, 0, 3, BAD, (x, w) -> x.pieces(w));
        within("10: pieces", Scenes.EMPTY, 0, 3, BAD, (x, w) -> x.pieces(w));
        within("31: count", Scenes.RICH, 0, 5, BAD, (x, w) -> x.count(w));
        within("31: count", Scenes.EMPTY, 0, 5, BAD, (x, w) -> x.count(w));
    }

    private static void pieces() {
        within("11: piece, p", Scenes.RICH, 0, 3, BAD, (x, w) -> x.piece(w, 0));
        within("11: piece, p", Scenes.TEN, 0, 9, BAD, (x, w) -> x.piece(w, 6));
        within("11: piece, what", Scenes.RICH, 0, 6, BAD, (x, w) -> x.piece(3, w));
        within("12: of", Scenes.RICH, 0, 14, BAD, (x, w) -> x.of(w));
        within("12: of", Scenes.FULL, 0, 47, BAD, (x, w) -> x.of(w));
        within("13: like, p", Scenes.RICH, 0, 2, NO, (x, w) -> w == 3 ? NO : x.like(w, 3));
        within("13: like, q", Scenes.RICH, 1, 3, NO, (x, w) -> w == 0 ? NO : x.like(0, w));
        within("13: like, q", Scenes.TEN, 1, 9, NO, (x, w) -> w == 0 ? NO : x.like(0, w));
        for (int p = 0; p < 4; p++) {
            Check.due("13: like(" + p + ", " + p + ")", Scenes.made(Scenes.RICH).like(p, p), NO);
            Check.due("17: sure(" + p + ", " + p + ")", Scenes.made(Scenes.RICH).sure(p, p), BAD);
        }
    }

    private static void heaps() {
        within("14: heap, p", Scenes.RICH, 0, 3, BAD, (x, w) -> x.heap(w, 0));
        within("14: heap, p, JOINED", Scenes.RICH, 0, 3, BAD, (x, w) -> x.heap(w, 1));
        within("14: heap, way", Scenes.RICH, 0, 1, BAD, (x, w) -> x.heap(3, w));
        within("15: worth", Scenes.RICH, 0, 1, NO, (x, w) -> x.worth(w));
        within("15: worth", Scenes.EMPTY, 0, 1, NO, (x, w) -> x.worth(w));
        within("16: near", Scenes.RICH, 0, 4, BAD, (x, w) -> x.near(w));
        within("16: near", Scenes.EMPTY, 0, 4, BAD, (x, w) -> x.near(w));
        within("16: near, ten", Scenes.TEN, 0, 4, BAD, (x, w) -> x.near(w));
        within("17: sure, p", Scenes.RICH, 0, 2, BAD, (x, w) -> w == 3 ? BAD : x.sure(w, 3));
        within("17: sure, q", Scenes.RICH, 1, 3, BAD, (x, w) -> w == 0 ? BAD : x.sure(0, w));
        within("18: middle, heap", Scenes.RICH, 0, 1, BAD, (x, w) -> x.middle(w, 3));
        within("18: middle, i", Scenes.RICH, 0, 3, BAD, (x, w) -> x.middle(1, w));
        within("19: twice, p", Scenes.RICH, 0, 3, BAD, (x, w) -> x.twice(w, 1));
        within("19: twice, what", Scenes.RICH, 0, 1, BAD, (x, w) -> x.twice(3, w));
    }

    private static void heapsOfNine() {
        within("14: heap, p", Scenes.NINE, 0, 8, BAD, (x, w) -> x.heap(w, 1));
        within("17: sure, q", Scenes.NINE, 1, 8, BAD, (x, w) -> w == 0 ? BAD : x.sure(w, 0));
        within("18: middle, heap", Scenes.NINE, 0, 8, BAD, (x, w) -> x.middle(w, 0));
        within("18: middle, heap, ten", Scenes.TEN, 0, 8, BAD, (x, w) -> x.middle(w, 0));
        within("19: twice, p", Scenes.NINE, 0, 8, BAD, (x, w) -> x.twice(w, 0));
        within("20: keep, heap", Scenes.NINE, 0, 8, BAD, (x, w) -> x.keep(w, 1));
        within("20: keep, heap, ten", Scenes.TEN, 0, 8, BAD, (x, w) -> x.keep(w, 1));
        within("22: back, heap", Scenes.NINE, 0, 8, BAD, (x, w) -> x.back(w, 0));
        within("22: back, heap, ten", Scenes.TEN, 0, 8, BAD, (x, w) -> x.back(w, 0));
        within("23: odds, heap", Scenes.NINE, 0, 8, BAD, (x, w) -> x.odds(w, 0, 0));
        within("23: odds, heap, ten", Scenes.TEN, 0, 8, BAD, (x, w) -> x.odds(w, 0, 0));
        within("30: weight, p, ten", Scenes.TEN, 0, 9, BAD, (x, w) -> x.weight(0, w));
    }

    private static void voices() {
        within("20: keep, heap", Scenes.RICH, 0, 1, BAD, (x, w) -> x.keep(w, 1));
        within("20: keep, name", Scenes.RICH, 1, 99, BAD, (x, w) -> x.keep(1, w));
        within("21: forget", Scenes.RICH, 0, 2, BAD, (x, w) -> x.forget(w));
        within("21: forget", Scenes.FULL, 0, 5, BAD, (x, w) -> x.forget(w));
        within("22: back, heap", Scenes.RICH, 0, 1, BAD, (x, w) -> x.back(w, 1));
        within("22: back, what", Scenes.RICH, 0, 1, BAD, (x, w) -> x.back(1, w));
        within("23: odds, heap", Scenes.RICH, 0, 1, BAD, (x, w) -> x.odds(w, 2, 1));
        within("23: odds, voice", Scenes.RICH, 0, 2, BAD, (x, w) -> x.odds(1, w, 0));
        within("23: odds, voice", Scenes.FULL, 0, 5, BAD, (x, w) -> x.odds(0, w, 0));
        within("23: odds, what", Scenes.RICH, 0, 1, BAD, (x, w) -> x.odds(1, 2, w));
        for (int name = 1; name <= 99; name++) {
            VoiceHeaps x = Scenes.made(Scenes.NINE);
            x.forget(0);
            x.keep(8, name);
            Check.due("22: the name " + name, x.back(8, 0), name);
            Check.due("21: the name " + name, x.forget(0), name);
        }
    }

    private static void words() {
        within("27: hung, word", Scenes.RICH, 0, 2, BAD, (x, w) -> x.hung(w, 0));
        within("27: hung, word", Scenes.FULL, 0, 11, BAD, (x, w) -> x.hung(w, 1));
        within("27: hung, what", Scenes.RICH, 0, 1, BAD, (x, w) -> x.hung(2, w));
        within("28: truth, v", Scenes.RICH, 0, 5, BAD, (x, w) -> x.truth(0, 14, w));
        within("29: errors", Scenes.RICH, 0, 2, BAD, (x, w) -> x.errors(w));
        within("29: errors", Scenes.EMPTY, 0, 2, BAD, (x, w) -> x.errors(w));
        within("29: errors, ten", Scenes.TEN, 0, 2, BAD, (x, w) -> x.errors(w));
        within("30: weight, kind", Scenes.RICH, 0, 7, BAD, (x, w) -> x.weight(w, 3));
        within("30: weight, p", Scenes.RICH, 0, 3, BAD, (x, w) -> x.weight(7, w));
    }

    /** ROWS from .. to: from is 0 at least, to is beyond none that there is, and from is not behind to. */
    private static void rowsFromTo() {
        within("8: out, from", Scenes.RICH, 0, 14, BAD, (x, w) -> x.out(w, 14, 1));
        within("8: out, to", Scenes.RICH, 0, 14, BAD, (x, w) -> x.out(0, w, 1));
        within("8: out, from", Scenes.FULL, 0, 47, BAD, (x, w) -> x.out(w, 47, 1));
        within("8: out, to", Scenes.FULL, 0, 47, BAD, (x, w) -> x.out(0, w, 1));
        within("26: word, from", Scenes.RICH, 0, 14, BAD, (x, w) -> x.word(w, 14));
        within("26: word, to", Scenes.RICH, 0, 14, BAD, (x, w) -> x.word(0, w));
        within("28: truth, from", Scenes.RICH, 0, 14, BAD, (x, w) -> x.truth(w, 14, 5));
        within("28: truth, to", Scenes.RICH, 0, 14, BAD, (x, w) -> x.truth(0, w, 5));
    }

    private static void pairsOfRows() {
        for (int from = -1; from <= 6; from++) {
            for (int to = -1; to <= 6; to++) {
                boolean isFine = from >= 0 && from <= to && to <= 5;
                int n = to - from + 1;
                String pair = "(" + from + ", " + to + ")";
                VoiceHeaps x = new VoiceHeaps();
                Check.rows(x, 6, 50, 50, 50, 50);
                Check.due("26: word" + pair, x.word(from, to), isFine ? 0 : BAD);
                Check.due("28: truth" + pair, x.truth(from, to, 5), isFine ? n : BAD);
                Check.due("28: nobody's are left" + pair, x.errors(1), isFine ? 6 - n : 6);
                Check.due("8: out" + pair, x.out(from, to, 1), isFine ? n : BAD);
                Check.due("8: count(2)" + pair, x.count(2), isFine ? n : 0);
                for (int r = 0; r < 6; r++) {
                    boolean isOut = isFine && r >= from && r <= to;
                    Check.holds("8: row " + r + pair, (x.of(r) == VoiceHeaps.NONE) == isOut);
                }
                Check.due("8: out once more" + pair, x.out(from, to, 1), isFine ? 0 : BAD);
                Check.due("8: all in" + pair, x.out(0, 5, 0), isFine ? n : 0);
            }
        }
    }

    /** What there is goes by the object as it is now. */
    private static void rowsAndPiecesThatMove() {
        VoiceHeaps x = new VoiceHeaps();
        for (int r = 0; r < 48; r++) {
            Check.due("12: of(" + r + ") ahead", x.of(r), BAD);
            Check.due("26: word(0, " + r + ") ahead", x.word(0, r), BAD);
            x.row(50, 50, 50, 50);
            Check.due("12: of(" + r + ") behind", x.of(r), 0);
            Check.due("28: truth(0, " + r + ") behind", x.truth(r, r, 1), 1);
        }
        Check.due("12: of(48)", x.of(48), BAD);
        x.out(0, 47, 1);
        Check.due("11: no PIECE is left", x.piece(0, 0), BAD);
        Check.due("14: no PIECE is left", x.heap(0, 0), BAD);
        Check.due("18: no HEAP is left", x.middle(0, 0), BAD);
        Check.due("30: no PIECE is left", x.weight(0, 0), BAD);
        x.hush();
        Check.due("12: no ROW is left", x.of(0), BAD);
        Check.due("8: no ROW is left", x.out(0, 0, 0), BAD);
        Check.due("28: no ROW is left", x.truth(0, 0, 0), BAD);
    }
}

/** Promises 26 to 30 and 32: word, hung, truth, errors, weight, trace. */
public final class WordsTest {
    private static final int[] WRONG = {-1, 100, Integer.MIN_VALUE, Integer.MAX_VALUE};

    public static void main(String[] args) {
        words();
        hungOnes();
        truths();
        missedAndMadeUp();
        wrongOnes();
        weights();
        traces();
        Check.end();
    }

    /** 3 ROWS of 20, 4 of 60, a deaf one, 3 of 20. */
    private static VoiceHeaps threePieces() {
        VoiceHeaps x = Check.ruled("like 10;");
        Check.rows(x, 3, 20, 50, 0, 0);
        Check.rows(x, 4, 60, 50, 0, 0);
        x.deaf(1);
        Check.rows(x, 3, 20, 50, 0, 0);
        return x;
    }

    private static void words() {
        VoiceHeaps x = new VoiceHeaps();
        Check.due("26: no rows", x.word(0, 0), VoiceHeaps.BAD);
        x.row(20, 20, 20, 20);
        x.deaf(2);
        for (int wrong : WRONG) {
            Check.due("26: from = " + wrong, x.word(wrong, 2), VoiceHeaps.BAD);
            Check.due("26: to = " + wrong, x.word(0, wrong), VoiceHeaps.BAD);
        }
        Check.due("26: to = 3", x.word(0, 3), VoiceHeaps.BAD);
        Check.due("26: from behind to", x.word(2, 1), VoiceHeaps.BAD);
        for (int w = 0; w < 12; w++) {
            Check.due("26: word " + w, x.word(w % 3, 2), w);
        }
        Check.due("26: a 13th", x.word(0, 0), VoiceHeaps.FULL);
        Check.due("26: BAD ahead of FULL", x.word(0, 3), VoiceHeaps.BAD);
        Check.due("26: twelve it is", x.count(4), 12);
    }

    private static void hungOnes() {
        VoiceHeaps x = threePieces();
        Check.due("27: no word", x.hung(0, 0), VoiceHeaps.BAD);
        int[][] fromToHungParted = {
            {0, 2, 0, 1}, {0, 4, 0, 2}, {1, 4, 0, 2}, {1, 5, 1, 2}, {2, 3, 0, 2}, {6, 8, 1, 2}, {6, 9, 2, 2},
            {7, 7, VoiceHeaps.NONE, 0}, {7, 8, 2, 1}, {0, 10, 1, 3}, {10, 10, 2, 1},
        };
        for (int w = 0; w < fromToHungParted.length; w++) {
            int[] row = fromToHungParted[w];
            x.word(row[0], row[1]);
            Check.due("27: hung(" + w + ", 0)", x.hung(w, 0), row[2]);
            Check.due("27: hung(" + w + ", 1)", x.hung(w, 1), row[3]);
        }
        x.out(3, 6, 1);
        Check.due("27: by the pieces of now", x.hung(9, 0), 0);
        Check.due("27: by the pieces of now", x.hung(9, 1), 2);
        for (int wrong : WRONG) {
            Check.due("27: word = " + wrong, x.hung(wrong, 0), VoiceHeaps.BAD);
            Check.due("27: what = " + wrong, x.hung(0, wrong), VoiceHeaps.BAD);
        }
        Check.due("27: what = 2", x.hung(0, 2), VoiceHeaps.BAD);
        Check.due("27: word = 11", x.hung(11, 0), VoiceHeaps.BAD);
        VoiceHeaps many = Check.ruled("price 0;");
        for (int r = 0; r < 12; r++) {
            many.row(20 + r, 0, 0, 0);
        }
        many.word(3, 11);
        Check.due("27: beyond 9 pieces, too", many.hung(0, 0), 3);
        Check.due("27: beyond 9 pieces, too", many.hung(0, 1), 9);
    }

    private static void truths() {
        VoiceHeaps x = new VoiceHeaps();
        Check.due("28: no rows", x.truth(0, 0, 1), VoiceHeaps.BAD);
        x.deaf(4);
        for (int wrong : WRONG) {
            Check.due("28: from = " + wrong, x.truth(wrong, 3, 1), VoiceHeaps.BAD);
            Check.due("28: to = " + wrong, x.truth(0, wrong, 1), VoiceHeaps.BAD);
            Check.due("28: v = " + wrong, x.truth(0, 3, wrong), VoiceHeaps.BAD);
        }
        Check.due("28: to = 4", x.truth(0, 4, 1), VoiceHeaps.BAD);
        Check.due("28: v = 6", x.truth(0, 3, 6), VoiceHeaps.BAD);
        Check.due("28: from behind to", x.truth(2, 1, 1), VoiceHeaps.BAD);
        Check.due("28: they are nobody", x.truth(0, 3, 0), 0);
        Check.due("28: two of five", x.truth(1, 2, 5), 2);
        Check.due("28: two others", x.truth(0, 3, 5), 2);
        Check.due("28: one to 1", x.truth(3, 3, 1), 1);
        Check.due("28: all to nobody", x.truth(0, 3, 0), 4);
    }

    private static void missedAndMadeUp() {
        VoiceHeaps x = threePieces();
        Check.due("29: nobody is missed", x.errors(0), 0);
        Check.due("29: all heard are made up", x.errors(1), 10);
        x.truth(6, 8, 4);
        Check.due("29: a deaf one of somebody is missed", x.errors(0), 1);
        Check.due("29: fewer are made up", x.errors(1), 8);
        x.out(5, 6, 1);
        Check.due("29: one that is out, too", x.errors(0), 2);
        Check.due("29: out and nobody's", x.errors(1), 7);
        for (int what : new int[] {-1, 3, Integer.MIN_VALUE, Integer.MAX_VALUE}) {
            Check.due("29: what = " + what, x.errors(what), VoiceHeaps.BAD);
        }
        x.truth(0, 0, 1);
        x.out(0, 0, 1);
        Check.due("29: the first row", x.errors(0), 3);
        VoiceHeaps many = new VoiceHeaps();
        for (int r = 0; r < 10; r++) {
            many.row(20, 0, 0, 0);
            many.deaf(1);
        }
        many.truth(0, 4, 1);
        Check.due("29: beyond 9 pieces", many.errors(0), 2);
        Check.due("29: beyond 9 pieces", many.errors(1), 7);
        Check.due("29: beyond 9 pieces", many.errors(2), VoiceHeaps.STATE);
    }

    private static void wrongOnes() {
        VoiceHeaps x = threePieces();
        Check.due("29: without truth none is wrong", x.errors(2), 0);
        // HEAP 0: rows 0 .. 2 and 8 .. 10, HEAP 1: 3 .. 6.
        x.truth(0, 10, 3);
        Check.due("29: a truth is given one heap", x.errors(2), 4);
        x.truth(3, 4, 5);
        Check.due("29: two and two", x.errors(2), 2);
        x.truth(8, 10, 1);
        // HEAP 0: three of 3 and three of 1; HEAP 1: two of 5 and two of 3. Best: 0 to 1 or 3, 1 to 5: 3 + 2.
        Check.due("29: not each its own best", x.errors(2), 5);
        x.truth(8, 8, 3);
        // HEAP 0: 3: four, 1: two. HEAP 1: 3: two, 5: two.
        Check.due("29: of ten four and two are right", x.errors(2), 4);
        x.truth(0, 2, 0);
        // HEAP 0: 3: one, 1: two. HEAP 1: 3: two, 5: two.
        Check.due("29: nobody's are not wrong", x.errors(2), 7 - 4);
        x.out(3, 4, 1);
        // Left: row 5, 6 of 3; 8 of 3; 9, 10 of 1.
        Check.due("29: nor are those that are out", x.errors(2), 5 - 4);
        // A greedy giving errs: HEAP 0 has 1: 3, 2: 2; HEAP 1 has 1: 3. Best is 2 + 3.
        VoiceHeaps y = Check.ruled("like 10;");
        Check.rows(y, 5, 20, 50, 0, 0);
        Check.rows(y, 3, 60, 50, 0, 0);
        y.truth(0, 2, 1);
        y.truth(3, 4, 2);
        y.truth(5, 7, 1);
        Check.due("29: so that it is least", y.errors(2), 3);
        // Six HEAPS, five TRUTHS.
        VoiceHeaps z = Check.ruled("like 3;");
        for (int h = 0; h < 6; h++) {
            Check.rows(z, 2, 30 + 10 * h, 0, 0, 0);
            z.deaf(1);
            z.truth(3 * h, 3 * h + 1, 1 + h % 5);
        }
        Check.due("29: six heaps", z.near(3), 6);
        Check.due("29: one heap is given to none", z.errors(2), 2);
    }

    private static void weights() {
        VoiceHeaps x = new VoiceHeaps();
        Check.due("30: no piece", x.weight(0, 0), VoiceHeaps.BAD);
        Check.rows(x, 2, 31, 0, 0, 0);
        x.row(32, 0, 3, 0);
        // 3 ROWS, first number 31, SPREAD 4.
        int[] want = {3, 34, 38, 19, 35, 11, 34, 9};
        for (int kind = 0; kind < 8; kind++) {
            Check.due("30: weight(" + kind + ", 0)", x.weight(kind, 0), want[kind]);
        }
        x.keep(0, 1);
        x.keep(0, 2);
        Check.due("30: KNOWN with two voices", x.weight(6, 0), 48);
        x.row(31, 0, 0, 0);
        // 4 ROWS, 31, SPREAD 4: 39.
        Check.due("30: half of 39, rounded up", x.weight(3, 0), 20);
        Check.due("30: a third of 35", x.weight(5, 0), 11);
        VoiceHeaps small = Check.ruled("hush 0;");
        small.row(0, 0, 0, 9);
        Check.due("30: SHORT is 0 at least", small.weight(4, 0), 0);
        Check.due("30: a third of 1", small.weight(5, 0), 0);
        Check.due("30: half of 1, rounded up", small.weight(3, 0), 1);
        Check.rows(small, 9, 0, 0, 0, 9);
        Check.due("30: 100 modulo 89", small.weight(7, 0), 11);
        for (int wrong : new int[] {-1, 8, Integer.MIN_VALUE, Integer.MAX_VALUE}) {
            Check.due("30: kind = " + wrong, x.weight(wrong, 0), VoiceHeaps.BAD);
        }
        for (int wrong : WRONG) {
            Check.due("30: p = " + wrong, x.weight(0, wrong), VoiceHeaps.BAD);
        }
        Check.due("30: p = 1", x.weight(0, 1), VoiceHeaps.BAD);
    }

    private static void traces() {
        VoiceHeaps x = new VoiceHeaps();
        x.row(20, 20, 20, 20);
        long[] marks = {1, 11, 111, 1111, 10111, 100011, 1000011, 10000001};
        long sum = 0;
        for (int kind = 0; kind < 8; kind++) {
            x.weight(kind, 0);
            sum += marks[kind];
            Check.due("32: with kind " + kind, x.trace(), sum);
        }
        x.weight(8, 0);
        x.weight(0, 1);
        x.weight(-1, -1);
        Check.due("32: refused ones leave none", x.trace(), sum);
        x.hush();
        x.clear();
        x.rules();
        Check.due("32: of all calls ever", x.trace(), sum);
        x.row(20, 20, 20, 20);
        for (int i = 0; i < 400; i++) {
            x.weight(7, 0);
        }
        Check.due("32: more than an int holds", x.trace(), sum + 400 * 10000001L);
    }
}

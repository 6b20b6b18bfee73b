/** Promises 6 to 9 and 31: row, deaf, out, hush, count. */
public final class RowsTest {
    public static void main(String[] args) {
        rows();
        deafOnes();
        outOnes();
        hushed();
        counts();
        Check.end();
    }

    private static void rows() {
        VoiceHeaps x = new VoiceHeaps();
        Check.due("6: the first", x.row(0, 0, 0, 0), 0);
        Check.due("6: the second", x.row(99, 99, 99, 99), 1);
        int[] wrong = {-1, 100, Integer.MIN_VALUE, Integer.MAX_VALUE};
        for (int w : wrong) {
            Check.due("6: a = " + w, x.row(w, 0, 0, 0), VoiceHeaps.BAD);
            Check.due("6: b = " + w, x.row(0, w, 0, 0), VoiceHeaps.BAD);
            Check.due("6: c = " + w, x.row(0, 0, w, 0), VoiceHeaps.BAD);
            Check.due("6: d = " + w, x.row(0, 0, 0, w), VoiceHeaps.BAD);
        }
        Check.due("6: nothing came", x.count(0), 2);
        for (int r = 2; r < 48; r++) {
            Check.due("6: row " + r, x.row(r, 1, 2, 3), r);
        }
        Check.due("6: a 49th", x.row(1, 1, 1, 1), VoiceHeaps.FULL);
        Check.due("6: BAD ahead of FULL", x.row(1, 1, 1, 100), VoiceHeaps.BAD);
        Check.due("6: 48 it is", x.count(0), 48);
        VoiceHeaps y = new VoiceHeaps();
        y.row(50, 60, 70, 80);
        for (int i = 0; i < 4; i++) {
            Check.due("6: the numbers in their places", y.piece(0, 3 + i), 50 + 10 * i);
        }
    }

    private static void deafOnes() {
        VoiceHeaps x = new VoiceHeaps();
        for (int n : new int[] {0, 10, -1, Integer.MIN_VALUE, Integer.MAX_VALUE}) {
            Check.due("7: n = " + n, x.deaf(n), VoiceHeaps.BAD);
        }
        Check.due("7: one", x.deaf(1), 1);
        Check.due("7: nine", x.deaf(9), 10);
        Check.due("7: a row behind", x.row(50, 0, 0, 0), 10);
        for (int i = 0; i < 4; i++) {
            x.deaf(8);
        }
        Check.due("7: 43 now", x.count(0), 43);
        Check.due("7: six are too many", x.deaf(6), VoiceHeaps.FULL);
        Check.due("7: nine are too many", x.deaf(9), VoiceHeaps.FULL);
        Check.due("7: BAD ahead of FULL", x.deaf(10), VoiceHeaps.BAD);
        Check.due("7: none came", x.count(1), 42);
        Check.due("7: five fit", x.deaf(5), 48);
        Check.due("7: one does not", x.deaf(1), VoiceHeaps.FULL);
        Check.due("7: they are not heard", x.pieces(3), 1);
        Check.due("7: even without hush", quietOnesHeard(), 1);
    }

    private static int quietOnesHeard() {
        VoiceHeaps x = Check.ruled("hush 0;");
        x.row(0, 0, 0, 0);
        x.deaf(3);
        return x.pieces(3);
    }

    private static void outOnes() {
        VoiceHeaps x = new VoiceHeaps();
        Check.due("8: no rows", x.out(0, 0, 1), VoiceHeaps.BAD);
        Check.rows(x, 4, 50, 50, 50, 50);
        x.deaf(2);
        Check.due("8: from -1", x.out(-1, 2, 1), VoiceHeaps.BAD);
        Check.due("8: to beyond", x.out(0, 6, 1), VoiceHeaps.BAD);
        Check.due("8: from behind to", x.out(2, 1, 1), VoiceHeaps.BAD);
        Check.due("8: out = 2", x.out(0, 1, 2), VoiceHeaps.BAD);
        Check.due("8: out = -1", x.out(0, 1, -1), VoiceHeaps.BAD);
        Check.due("8: greatest", x.out(0, Integer.MAX_VALUE, 1), VoiceHeaps.BAD);
        Check.due("8: least", x.out(Integer.MIN_VALUE, 0, 1), VoiceHeaps.BAD);
        Check.due("8: none is out", x.count(2), 0);
        Check.due("8: they are in already", x.out(0, 5, 0), 0);
        Check.due("8: two", x.out(1, 2, 1), 2);
        Check.due("8: two of four", x.out(1, 4, 1), 2);
        Check.due("8: four are out, a deaf one too", x.count(2), 4);
        Check.due("8: heard", x.pieces(3), 1);
        Check.due("8: of(1)", x.of(1), VoiceHeaps.NONE);
        Check.due("8: three in", x.out(2, 5, 0), 3);
        Check.due("8: heard again", x.pieces(3), 3);
        Check.due("8: a deaf one stays deaf", x.of(4), VoiceHeaps.NONE);
        Check.due("8: the middle one cuts", x.pieces(1), 2);
    }

    private static void hushed() {
        VoiceHeaps x = Check.ruled("price 7; near 3;");
        Check.due("9: nothing yet", x.hush(), 0);
        Check.rows(x, 3, 50, 0, 0, 0);
        x.deaf(2);
        x.out(0, 3, 1);
        x.truth(0, 4, 2);
        x.word(0, 1);
        x.out(0, 0, 0);
        x.keep(0, 44);
        x.show();
        x.weight(0, 0);
        Check.type(x, "abc");
        Check.due("9: five rows", x.hush(), 5);
        Check.due("9: rows", x.count(0), 0);
        Check.due("9: deaf ones", x.count(1), 0);
        Check.due("9: out ones", x.count(2), 0);
        Check.due("9: voices stay", x.count(3), 1);
        Check.due("9: words", x.count(4), 0);
        Check.due("9: text stays", x.count(5), 3);
        Check.due("9: trace stays", x.trace(), 1);
        Check.due("9: nothing shown", x.otherwise(), VoiceHeaps.STATE);
        Check.due("9: pieces", x.pieces(0), 0);
        Check.due("9: rules stay", x.rule(0), 7);
        Check.due("9: rules stay", x.rule(3), 3);
        Check.due("9: no word", x.hung(0, 0), VoiceHeaps.BAD);
        x.row(50, 0, 0, 0);
        Check.due("9: a new row is not out", x.of(0), 0);
        x.row(50, 0, 0, 0);
        Check.due("9: nor is another", x.of(1), 0);
        x.deaf(1);
        Check.due("9: nor is a deaf one", x.count(2), 0);
        Check.due("9: nor of somebody", x.truth(0, 0, 0), 0);
        Check.due("9: the voice comes back", x.back(0, 0), 44);
        Check.due("9: a new word is the first", x.word(0, 0), 0);
    }

    private static void counts() {
        VoiceHeaps x = new VoiceHeaps();
        x.row(20, 20, 20, 20);
        x.deaf(4);
        x.row(20, 20, 20, 20);
        x.out(0, 2, 1);
        x.out(1, 1, 0);
        x.keep(0, 3);
        x.word(0, 1);
        x.word(0, 2);
        x.word(0, 3);
        Check.type(x, "price");
        int[] want = {6, 4, 2, 1, 3, 5};
        for (int what = 0; what < 6; what++) {
            Check.due("31: count(" + what + ")", x.count(what), want[what]);
        }
        for (int what : new int[] {-1, 6, Integer.MIN_VALUE, Integer.MAX_VALUE}) {
            Check.due("31: count(" + what + ")", x.count(what), VoiceHeaps.BAD);
        }
    }
}

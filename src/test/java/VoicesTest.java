/** Promises 20 to 25: keep, forget, back, odds, show, otherwise. */
public final class VoicesTest {
    private static final int[] WRONG = {-1, 9, Integer.MIN_VALUE, Integer.MAX_VALUE};

    public static void main(String[] args) {
        keeping();
        forgetting();
        comingBack();
        deals();
        shown();
        tooManyPieces();
        Check.end();
    }

    private static VoiceHeaps voices(int... numbers) {
        VoiceHeaps x = Check.ruled("like 10;");
        for (int n : numbers) {
            x.row(n, 50, 0, 0);
            x.deaf(1);
        }
        return x;
    }

    private static void keeping() {
        VoiceHeaps x = voices(20, 60, 22);
        for (int heap : WRONG) {
            Check.due("20: heap = " + heap, x.keep(heap, 5), VoiceHeaps.BAD);
        }
        for (int name : new int[] {0, 100, -5, Integer.MIN_VALUE, Integer.MAX_VALUE}) {
            Check.due("20: name = " + name, x.keep(0, name), VoiceHeaps.BAD);
        }
        Check.due("20: no third heap", x.keep(2, 5), VoiceHeaps.BAD);
        Check.due("20: none is kept", x.count(3), 0);
        Check.due("20: the first", x.keep(1, 99), 0);
        Check.due("20: the second", x.keep(0, 1), 1);
        Check.due("20: a name may come again", x.keep(0, 1), 2);
        for (int v = 3; v < 6; v++) {
            Check.due("20: voice " + v, x.keep(1, v), v);
        }
        Check.due("20: a seventh", x.keep(1, 5), VoiceHeaps.FULL);
        Check.due("20: BAD ahead of FULL", x.keep(1, 0), VoiceHeaps.BAD);
        Check.due("20: a heap that there is not, ahead of FULL", x.keep(2, 5), VoiceHeaps.BAD);
        Check.due("20: six are kept", x.count(3), 6);
        VoiceHeaps none = new VoiceHeaps();
        Check.due("20: no heaps", none.keep(0, 5), VoiceHeaps.BAD);
    }

    private static void forgetting() {
        VoiceHeaps x = voices(20, 60, 90);
        Check.due("21: none", x.forget(0), VoiceHeaps.BAD);
        x.keep(0, 11);
        x.keep(1, 12);
        x.keep(2, 13);
        for (int v : new int[] {-1, 3, 6, Integer.MIN_VALUE, Integer.MAX_VALUE}) {
            Check.due("21: voice = " + v, x.forget(v), VoiceHeaps.BAD);
        }
        Check.due("21: the middle one", x.forget(1), 12);
        Check.due("21: two left", x.count(3), 2);
        Check.due("21: the one behind moved up", x.back(2, 1), 1);
        Check.due("21: with its name", x.back(2, 0), 13);
        Check.due("21: the one ahead stays", x.back(0, 1), 0);
        Check.due("21: the forgotten one is gone", x.back(1, 0), VoiceHeaps.NONE);
        Check.due("21: no third", x.forget(2), VoiceHeaps.BAD);
        Check.due("21: the last", x.forget(1), 13);
        Check.due("21: the first", x.forget(0), 11);
        Check.due("21: none left", x.count(3), 0);
    }

    private static void comingBack() {
        VoiceHeaps x = voices(20, 60);
        Check.due("22: none is kept", x.back(0, 0), VoiceHeaps.NONE);
        Check.due("22: none is kept", x.back(0, 1), VoiceHeaps.NONE);
        x.keep(0, 7);
        x.keep(0, 8);
        Check.due("22: of two alike the first", x.back(0, 0), 7);
        Check.due("22: of two alike the first", x.back(0, 1), 0);
        Check.due("22: far", x.back(1, 0), VoiceHeaps.NONE);
        for (int wrong : WRONG) {
            Check.due("22: heap = " + wrong, x.back(wrong, 0), VoiceHeaps.BAD);
            Check.due("22: what = " + wrong, x.back(0, wrong), VoiceHeaps.BAD);
        }
        Check.due("22: what = 2", x.back(0, 2), VoiceHeaps.BAD);
        Check.due("22: no such heap", x.back(2, 0), VoiceHeaps.BAD);
        x.hush();
        x.row(30, 50, 0, 0);
        Check.due("22: off by just L", x.back(0, 0), 7);
        x.keep(0, 9);
        Check.due("22: the nearest, not the first", x.back(0, 1), 2);
        x.hush();
        x.row(20, 50, 0, 11);
        Check.due("22: off by L and 1", x.back(0, 0), VoiceHeaps.NONE);
        Check.type(x, "like 11;");
        x.rules();
        Check.due("22: L is now 11", x.back(0, 1), 0);
        x.hush();
        Check.due("22: no heaps", x.back(0, 0), VoiceHeaps.BAD);
    }

    private static void deals() {
        VoiceHeaps x = voices(20, 60, 22, 28);
        Check.due("23: no voice", x.odds(0, 0, 0), VoiceHeaps.BAD);
        x.keep(0, 5);
        x.keep(1, 6);
        // The first voice is at 22: the PIECES are off it by 2, 38, 0, 6; HEAP 0 has 0, 2 and 3.
        Check.due("23: heaps", x.near(3), 2);
        Check.due("23: all", x.odds(0, 0, 1), 4);
        Check.due("23: it is the nearest", x.odds(0, 0, 0), 1);
        Check.due("23: the other heap, all", x.odds(1, 0, 1), 4);
        Check.due("23: the other heap is the farthest", x.odds(1, 0, 0), 4);
        // The second is at 60: off by 40, 0, 38, 32.
        Check.due("23: the other voice", x.odds(0, 1, 0), 4);
        Check.due("23: as much as itself", x.odds(1, 1, 0), 1);
        for (int wrong : WRONG) {
            Check.due("23: heap = " + wrong, x.odds(wrong, 0, 0), VoiceHeaps.BAD);
            Check.due("23: voice = " + wrong, x.odds(0, wrong, 0), VoiceHeaps.BAD);
            Check.due("23: what = " + wrong, x.odds(0, 0, wrong), VoiceHeaps.BAD);
        }
        Check.due("23: no third voice", x.odds(0, 2, 0), VoiceHeaps.BAD);
        Check.due("23: what = 2", x.odds(0, 0, 2), VoiceHeaps.BAD);
        Check.due("23: no third heap", x.odds(2, 0, 0), VoiceHeaps.BAD);
        // Equal sums count: two PIECES as far on either side.
        VoiceHeaps y = voices(40, 60, 20);
        y.keep(0, 1);
        Check.due("23: as far on either side", y.odds(1, 0, 0), 3);
        Check.due("23: the other, too", y.odds(2, 0, 0), 3);
        Check.due("23: nearer is one", y.odds(0, 0, 0), 1);
    }

    private static void shown() {
        VoiceHeaps x = voices(20, 60, 22);
        Check.due("25: nothing was shown", x.otherwise(), VoiceHeaps.STATE);
        Check.due("24: all rows, deaf ones too", x.show(), 6);
        Check.due("25: nothing is otherwise", x.otherwise(), 0);
        x.row(90, 50, 0, 0);
        Check.due("25: a later row does not count", x.otherwise(), 0);
        x.out(0, 0, 1);
        // Row 0 is none now, row 2's heap is the first, row 4's the second.
        Check.due("25: all three", x.otherwise(), 3);
        x.out(0, 0, 0);
        Check.due("25: as before", x.otherwise(), 0);
        x.out(2, 2, 1);
        Check.due("25: one is no longer heard", x.otherwise(), 1);
        Check.due("24: shown anew", x.show(), 7);
        Check.due("25: as shown anew", x.otherwise(), 0);
        x.out(2, 2, 0);
        Check.due("25: one is heard now, one is of another heap", x.otherwise(), 2);
        Check.type(x, "like 0;");
        x.rules();
        Check.due("25: by other rules", x.otherwise(), 3);
        x.hush();
        Check.due("25: nothing is shown", x.otherwise(), VoiceHeaps.STATE);
        VoiceHeaps y = voices(20, 60, 22);
        y.out(0, 0, 1);
        y.show();
        y.out(0, 0, 0);
        Check.due("25: the first row was none then", y.otherwise(), 3);
        VoiceHeaps none = new VoiceHeaps();
        Check.due("24: no rows", none.show(), 0);
        Check.due("25: no rows", none.otherwise(), 0);
        none.row(20, 20, 20, 20);
        Check.due("25: none were there then", none.otherwise(), 0);
    }

    private static void tooManyPieces() {
        VoiceHeaps x = voices(20, 60);
        x.keep(0, 5);
        x.hush();
        for (int r = 0; r < 10; r++) {
            x.row(10 * r, 10, 0, 0);
            x.deaf(1);
        }
        Check.due("20: ten", x.keep(8, 5), VoiceHeaps.STATE);
        Check.due("20: BAD ahead", x.keep(9, 5), VoiceHeaps.BAD);
        Check.due("20: BAD ahead", x.keep(0, 100), VoiceHeaps.BAD);
        Check.due("22: ten", x.back(8, 0), VoiceHeaps.STATE);
        Check.due("22: BAD ahead", x.back(9, 0), VoiceHeaps.BAD);
        Check.due("22: BAD ahead", x.back(0, 2), VoiceHeaps.BAD);
        Check.due("23: ten", x.odds(8, 0, 0), VoiceHeaps.STATE);
        Check.due("23: BAD ahead", x.odds(9, 0, 0), VoiceHeaps.BAD);
        Check.due("23: BAD ahead", x.odds(0, 1, 0), VoiceHeaps.BAD);
        Check.due("23: BAD ahead", x.odds(0, 0, 2), VoiceHeaps.BAD);
        Check.due("24: ten", x.show(), VoiceHeaps.STATE);
        Check.due("25: ten", x.otherwise(), VoiceHeaps.STATE);
        Check.due("21: forgetting needs no heaps", x.forget(0), 5);
        x.out(0, 2, 1);
        Check.due("25: ten were not shown", x.otherwise(), VoiceHeaps.STATE);
        // STATE ahead of FULL.
        VoiceHeaps y = voices(20);
        for (int v = 0; v < 6; v++) {
            y.keep(0, 1);
        }
        y.hush();
        for (int r = 0; r < 10; r++) {
            y.row(10 * r, 10, 0, 0);
            y.deaf(1);
        }
        Check.due("20: STATE ahead of FULL", y.keep(0, 1), VoiceHeaps.STATE);
    }
}

import java.util.Arrays;

/** "Refused, and nothing changes, the first of these: BAD .., STATE .., FULL", and calls that but ask change nothing. */
public final class RefusedTest {
    private static final int BAD = VoiceHeaps.BAD, STATE = VoiceHeaps.STATE, FULL = VoiceHeaps.FULL, NO = VoiceHeaps.NO;
    private static final int LEAST = Integer.MIN_VALUE, MOST = Integer.MAX_VALUE;

    private interface Call {
        int on(VoiceHeaps x);
    }

    public static void main(String[] args) {
        badEverywhere();
        fullOnes();
        stateAtTen();
        stateUnshown();
        badAheadOfState();
        badAheadOfFull();
        badHeapBehindState();
        stateAheadOfFull();
        faults();
        askingChangesNothing();
        Check.end();
    }

    private static void refused(String what, int scene, int due, Call call) {
        VoiceHeaps x = Scenes.made(scene);
        String label = "Refused, " + Scenes.NAMES[scene] + ": " + what;
        Check.due(label, call.on(x), due);
        Check.due(label + ", again", call.on(x), due);
        unchanged(label, scene, x);
    }

    private static void unchanged(String label, int scene, VoiceHeaps x) {
        long[] now = Scenes.answersOf(x);
        long[] before = Scenes.answersOf(Scenes.made(scene));
        Check.holds(label + " changes something at " + Arrays.mismatch(now, before), Arrays.equals(now, before));
    }

    private static void badEverywhere() {
        for (int scene = 0; scene < Scenes.SCENES; scene++) {
            for (int w : new int[] {-1, 512, LEAST, MOST}) {
                badRowsAndRules(scene, w);
                badPiecesAndHeaps(scene, w);
                badVoicesAndWords(scene, w);
            }
            // Within 32 bits, but not as told once they are cut to 8 or 16.
            for (int w : new int[] {256, 257, 65536, 65537, -255, -65535, LEAST + 1}) {
                badRowsAndRules(scene, w);
                badVoicesAndWords(scene, w);
            }
        }
    }

    private static void badRowsAndRules(int scene, int w) {
        refused("type(5, " + w + ")", scene, BAD, x -> x.type(5, w));
        refused("rule(" + w + ")", scene, BAD, x -> x.rule(w));
        refused("row(" + w + ", ..)", scene, BAD, x -> x.row(w, 50, 50, 50));
        refused("row(.., " + w + ", ..)", scene, BAD, x -> x.row(50, w, 50, 50));
        refused("row(.., " + w + ", .)", scene, BAD, x -> x.row(50, 50, w, 50));
        refused("row(.., " + w + ")", scene, BAD, x -> x.row(50, 50, 50, w));
        refused("deaf(" + w + ")", scene, BAD, x -> x.deaf(w));
        refused("out(" + w + ", 0, 1)", scene, BAD, x -> x.out(w, 0, 1));
        refused("out(0, " + w + ", 1)", scene, BAD, x -> x.out(0, w, 1));
        refused("out(0, 0, " + w + ")", scene, BAD, x -> x.out(0, 0, w));
    }

    private static void badPiecesAndHeaps(int scene, int w) {
        refused("pieces(" + w + ")", scene, BAD, x -> x.pieces(w));
        refused("piece(" + w + ", 0)", scene, BAD, x -> x.piece(w, 0));
        refused("piece(0, " + w + ")", scene, BAD, x -> x.piece(0, w));
        refused("of(" + w + ")", scene, BAD, x -> x.of(w));
        refused("like(" + w + ", 0)", scene, NO, x -> x.like(w, 0));
        refused("like(0, " + w + ")", scene, NO, x -> x.like(0, w));
        refused("heap(" + w + ", 0)", scene, BAD, x -> x.heap(w, 0));
        refused("heap(0, " + w + ")", scene, BAD, x -> x.heap(0, w));
        refused("worth(" + w + ")", scene, NO, x -> x.worth(w));
        refused("near(" + w + ")", scene, BAD, x -> x.near(w));
        refused("sure(" + w + ", 0)", scene, BAD, x -> x.sure(w, 0));
        refused("sure(0, " + w + ")", scene, BAD, x -> x.sure(0, w));
        refused("sure of " + w + " twice", scene, BAD, x -> x.sure(w, w));
        refused("middle(" + w + ", 0)", scene, BAD, x -> x.middle(w, 0));
        refused("middle(0, " + w + ")", scene, BAD, x -> x.middle(0, w));
        refused("twice(" + w + ", 0)", scene, BAD, x -> x.twice(w, 0));
        refused("twice(0, " + w + ")", scene, BAD, x -> x.twice(0, w));
    }

    private static void badVoicesAndWords(int scene, int w) {
        refused("keep(" + w + ", 1)", scene, BAD, x -> x.keep(w, 1));
        refused("keep(0, " + w + ")", scene, BAD, x -> x.keep(0, w));
        refused("forget(" + w + ")", scene, BAD, x -> x.forget(w));
        refused("back(" + w + ", 0)", scene, BAD, x -> x.back(w, 0));
        refused("back(0, " + w + ")", scene, BAD, x -> x.back(0, w));
        refused("odds(" + w + ", 0, 0)", scene, BAD, x -> x.odds(w, 0, 0));
        refused("odds(0, " + w + ", 0)", scene, BAD, x -> x.odds(0, w, 0));
        refused("odds(0, 0, " + w + ")", scene, BAD, x -> x.odds(0, 0, w));
        refused("word(" + w + ", 0)", scene, BAD, x -> x.word(w, 0));
        refused("word(0, " + w + ")", scene, BAD, x -> x.word(0, w));
        refused("hung(" + w + ", 0)", scene, BAD, x -> x.hung(w, 0));
        refused("hung(0, " + w + ")", scene, BAD, x -> x.hung(0, w));
        refused("truth(" + w + ", 0, 1)", scene, BAD, x -> x.truth(w, 0, 1));
        refused("truth(0, " + w + ", 1)", scene, BAD, x -> x.truth(0, w, 1));
        refused("truth(0, 0, " + w + ")", scene, BAD, x -> x.truth(0, 0, w));
        refused("errors(" + w + ")", scene, BAD, x -> x.errors(w));
        refused("weight(" + w + ", 0)", scene, BAD, x -> x.weight(w, 0));
        refused("weight(0, " + w + ")", scene, BAD, x -> x.weight(0, w));
        refused("count(" + w + ")", scene, BAD, x -> x.count(w));
    }

    private static void fullOnes() {
        refused("row", Scenes.FULL, FULL, x -> x.row(1, 2, 3, 4));
        for (int n = 1; n <= 9; n++) {
            int more = n;
            refused("deaf(" + n + ")", Scenes.FULL, FULL, x -> x.deaf(more));
        }
        for (int n = 1; n <= 8; n++) {
            int more = n;
            refused("type(0, " + n + ")", Scenes.FULL, FULL, x -> x.type(0, more));
        }
        refused("word", Scenes.FULL, FULL, x -> x.word(0, 47));
        refused("keep", Scenes.FULL, FULL, x -> x.keep(2, 99));
    }

    /** With more than 9 PIECES. */
    private static void stateAtTen() {
        for (int k = 0; k < 2; k++) {
            int what = k;
            refused("heap(" + k + ")", Scenes.TEN, STATE, x -> x.heap(9, what));
            refused("worth(" + k + ")", Scenes.TEN, NO, x -> x.worth(what));
            refused("twice(" + k + ")", Scenes.TEN, STATE, x -> x.twice(9, what));
            refused("back(" + k + ")", Scenes.TEN, STATE, x -> x.back(8, what));
            refused("odds(" + k + ")", Scenes.TEN, STATE, x -> x.odds(8, 0, what));
        }
        for (int k = 0; k < 5; k++) {
            int what = k;
            refused("near(" + k + ")", Scenes.TEN, STATE, x -> x.near(what));
        }
        refused("sure", Scenes.TEN, STATE, x -> x.sure(0, 9));
        refused("middle", Scenes.TEN, STATE, x -> x.middle(8, 3));
        refused("keep", Scenes.TEN, STATE, x -> x.keep(8, 1));
        refused("show", Scenes.TEN, STATE, x -> x.show());
        refused("otherwise", Scenes.TEN, STATE, x -> x.otherwise());
        refused("errors(2)", Scenes.TEN, STATE, x -> x.errors(2));
    }

    private static void stateUnshown() {
        refused("otherwise", Scenes.EMPTY, STATE, x -> x.otherwise());
    }

    private static void badAheadOfState() {
        refused("heap(10)", Scenes.TEN, BAD, x -> x.heap(10, 0));
        refused("way 2", Scenes.TEN, BAD, x -> x.heap(0, 2));
        refused("near(5)", Scenes.TEN, BAD, x -> x.near(5));
        refused("one and the same", Scenes.TEN, BAD, x -> x.sure(9, 9));
        refused("sure(0, 10)", Scenes.TEN, BAD, x -> x.sure(0, 10));
        refused("middle(9, 0)", Scenes.TEN, BAD, x -> x.middle(9, 0));
        refused("middle(0, 4)", Scenes.TEN, BAD, x -> x.middle(0, 4));
        refused("twice(10, 0)", Scenes.TEN, BAD, x -> x.twice(10, 0));
        refused("twice(0, 2)", Scenes.TEN, BAD, x -> x.twice(0, 2));
        refused("keep(9, 1)", Scenes.TEN, BAD, x -> x.keep(9, 1));
        refused("keep(0, 0)", Scenes.TEN, BAD, x -> x.keep(0, 0));
        refused("keep(0, 100)", Scenes.TEN, BAD, x -> x.keep(0, 100));
        refused("back(9, 0)", Scenes.TEN, BAD, x -> x.back(9, 0));
        refused("back(0, 2)", Scenes.TEN, BAD, x -> x.back(0, 2));
        refused("odds(9, 0, 0)", Scenes.TEN, BAD, x -> x.odds(9, 0, 0));
        refused("odds of a VOICE that there is not", Scenes.TEN, BAD, x -> x.odds(0, 1, 0));
        refused("odds(0, 0, 2)", Scenes.TEN, BAD, x -> x.odds(0, 0, 2));
        refused("errors(3)", Scenes.TEN, BAD, x -> x.errors(3));
    }

    private static void badAheadOfFull() {
        refused("row(.., 100)", Scenes.FULL, BAD, x -> x.row(0, 0, 0, 100));
        refused("deaf(0)", Scenes.FULL, BAD, x -> x.deaf(0));
        refused("deaf(10)", Scenes.FULL, BAD, x -> x.deaf(10));
        refused("type(0, 0)", Scenes.FULL, BAD, x -> x.type(0, 0));
        refused("type(0, 9)", Scenes.FULL, BAD, x -> x.type(0, 9));
        refused("word(0, 48)", Scenes.FULL, BAD, x -> x.word(0, 48));
        refused("word(1, 0)", Scenes.FULL, BAD, x -> x.word(1, 0));
        refused("keep(0, 0)", Scenes.FULL, BAD, x -> x.keep(0, 0));
        refused("keep(0, 100)", Scenes.FULL, BAD, x -> x.keep(0, 100));
        refused("a HEAP that there is not", Scenes.FULL, BAD, x -> x.keep(3, 1));
    }

    /** "one that there is not is BAD behind STATE": at ten STATE, at nine and less BAD. */
    private static void badHeapBehindState() {
        for (int k = 0; k <= 8; k++) {
            int heap = k;
            refused("HEAP " + k + " at ten: middle", Scenes.TEN, STATE, x -> x.middle(heap, 0));
            refused("HEAP " + k + " at ten: keep", Scenes.TEN, STATE, x -> x.keep(heap, 1));
            refused("HEAP " + k + " at ten: back", Scenes.TEN, STATE, x -> x.back(heap, 0));
            refused("HEAP " + k + " at ten: odds", Scenes.TEN, STATE, x -> x.odds(heap, 0, 0));
            refused("HEAP " + k + " of none: middle", Scenes.EMPTY, BAD, x -> x.middle(heap, 0));
            refused("HEAP " + k + " of none: keep", Scenes.EMPTY, BAD, x -> x.keep(heap, 1));
            refused("HEAP " + k + " of none: back", Scenes.EMPTY, BAD, x -> x.back(heap, 0));
            if (k >= 2) {
                refused("HEAP " + k + " of two: middle", Scenes.RICH, BAD, x -> x.middle(heap, 0));
                refused("HEAP " + k + " of two: keep", Scenes.RICH, BAD, x -> x.keep(heap, 1));
                refused("HEAP " + k + " of two: back", Scenes.RICH, BAD, x -> x.back(heap, 0));
                refused("HEAP " + k + " of two: odds", Scenes.RICH, BAD, x -> x.odds(heap, 0, 0));
            }
        }
        refused("HEAP 9 of nine: middle", Scenes.NINE, BAD, x -> x.middle(9, 0));
        refused("HEAP 9 of nine: keep", Scenes.NINE, BAD, x -> x.keep(9, 1));
    }

    /** Six VOICES and ten PIECES. */
    private static void stateAheadOfFull() {
        VoiceHeaps x = Scenes.made(Scenes.FULL);
        x.hush();
        for (int r = 0; r < 10; r++) {
            x.row(9 * r, 50, 50, 50);
            x.deaf(1);
        }
        Check.due("Refused: STATE ahead of FULL", x.keep(0, 1), STATE);
        Check.due("Refused: STATE ahead of FULL, a HEAP that there is not", x.keep(8, 1), STATE);
        Check.due("Refused: BAD ahead of both", x.keep(9, 1), BAD);
        x.out(0, 17, 1);
        Check.due("Refused: then FULL", x.keep(0, 1), FULL);
        Check.due("Refused: six VOICES", x.count(3), 6);
    }

    /** "-10 less FAULT: nothing changes (THE TEXT, too, stays)." */
    private static void faults() {
        refused("rules() that end too early", Scenes.RICH, -25, x -> x.rules());
        refused("rules() of ten", Scenes.TEN, -18, x -> x.rules());
    }

    /** Promises 5, 10 to 19, 22, 23, 25, 27, 29, 31, 32: asked again and again in any order, they answer the same. */
    private static void askingChangesNothing() {
        for (int scene = 0; scene < Scenes.SCENES; scene++) {
            VoiceHeaps x = Scenes.made(scene);
            for (int k = 0; k < 2; k++) {
                x.like(0, 1);
                x.hung(0, 1);
                x.odds(0, 0, 1);
                x.middle(0, 2);
                x.twice(0, 1);
                x.near(2);
                x.otherwise();
                x.errors(2);
                x.of(0);
                x.trace();
            }
            unchanged("Asked, " + Scenes.NAMES[scene], scene, x);
        }
    }
}

/** Promises 10 to 13: pieces, piece, of, like. */
public final class PiecesTest {
    public static void main(String[] args) {
        none();
        heard();
        middleAndSpread();
        cuts();
        ties();
        likes();
        Check.end();
    }

    private static void none() {
        VoiceHeaps x = new VoiceHeaps();
        for (int what = 0; what < 4; what++) {
            Check.due("10: without rows " + what, x.pieces(what), 0);
        }
        for (int what : new int[] {-1, 4, Integer.MIN_VALUE, Integer.MAX_VALUE}) {
            Check.due("10: pieces(" + what + ")", x.pieces(what), VoiceHeaps.BAD);
        }
        Check.due("11: without pieces", x.piece(0, 0), VoiceHeaps.BAD);
        Check.due("12: without rows", x.of(0), VoiceHeaps.BAD);
        Check.due("13: without pieces", x.like(0, 1), VoiceHeaps.NO);
    }

    private static void heard() {
        VoiceHeaps x = new VoiceHeaps();
        x.row(3, 3, 3, 0);
        x.row(3, 3, 3, 1);
        x.row(0, 0, 0, 10);
        x.deaf(1);
        x.row(50, 50, 0, 0);
        x.row(0, 0, 0, 0);
        x.row(50, 50, 0, 0);
        Check.due("10: heard are those of 10 at least", x.pieces(3), 4);
        Check.due("10: stretches", x.pieces(1), 3);
        Check.due("12: 9 is hushed", x.of(0), VoiceHeaps.NONE);
        Check.due("12: 10 is heard", x.of(1), 0);
        Check.due("12: deaf", x.of(3), VoiceHeaps.NONE);
        Check.due("12: behind the deaf one", x.of(4), x.pieces(0) - 2);
        Check.due("12: the last", x.of(6), x.pieces(0) - 1);
        Check.due("12: beyond", x.of(7), VoiceHeaps.BAD);
        Check.due("12: -1", x.of(-1), VoiceHeaps.BAD);
        Check.due("12: most", x.of(Integer.MAX_VALUE), VoiceHeaps.BAD);
        Check.due("12: least", x.of(Integer.MIN_VALUE), VoiceHeaps.BAD);
        Check.type(x, "hush 100;");
        x.rules();
        Check.due("10: a new rule holds at once", x.pieces(3), 2);
        Check.type(x, "hush 0;");
        x.rules();
        Check.due("10: without hush all but deaf ones", x.pieces(3), 6);
    }

    private static void middleAndSpread() {
        VoiceHeaps x = Check.ruled("price 999;");
        x.row(10, 90, 5, 7);
        Check.due("11: one row's middle", x.piece(0, 3), 10);
        x.row(20, 80, 5, 7);
        Check.due("11: the lower of two", x.piece(0, 3), 10);
        Check.due("11: the lower of two, the second", x.piece(0, 4), 80);
        Check.due("11: spread of two", x.piece(0, 2), 20);
        x.row(40, 10, 5, 6);
        Check.due("11: of three", x.piece(0, 3), 20);
        Check.due("11: of three, the second", x.piece(0, 4), 80);
        Check.due("11: of three, the fourth", x.piece(0, 6), 7);
        Check.due("11: spread of three", x.piece(0, 2), 10 + 20 + 10 + 70 + 1);
        x.row(15, 85, 5, 6);
        Check.due("11: of four the second", x.piece(0, 3), 15);
        Check.due("11: of four, the second", x.piece(0, 4), 80);
        Check.due("11: of four, the fourth", x.piece(0, 6), 6);
        Check.due("11: spread of four", x.piece(0, 2), 5 + 0 + 5 + 25 + 70 + 0 + 5 + 10 + 2);
        Check.due("11: its first row", x.piece(0, 0), 0);
        Check.due("11: its rows", x.piece(0, 1), 4);
        Check.due("10: together with the price", x.pieces(2), 122 + 999);
        Check.due("11: p = 1", x.piece(1, 0), VoiceHeaps.BAD);
        Check.due("11: p = -1", x.piece(-1, 0), VoiceHeaps.BAD);
        Check.due("11: p least", x.piece(Integer.MIN_VALUE, 0), VoiceHeaps.BAD);
        Check.due("11: p most", x.piece(Integer.MAX_VALUE, 0), VoiceHeaps.BAD);
        for (int what : new int[] {-1, 7, Integer.MIN_VALUE, Integer.MAX_VALUE}) {
            Check.due("11: what = " + what, x.piece(0, what), VoiceHeaps.BAD);
        }
    }

    private static void cuts() {
        // One PIECE of all costs 22 and a price, two cost two prices.
        VoiceHeaps x = new VoiceHeaps();
        Check.rows(x, 2, 20, 0, 0, 0);
        Check.rows(x, 2, 31, 0, 0, 0);
        Check.due("10: two pieces are cheaper", x.pieces(0), 2);
        Check.due("10: their cost", x.pieces(2), 40);
        Check.type(x, "price 23;");
        x.rules();
        Check.due("10: one is cheaper", x.pieces(0), 1);
        Check.due("10: its cost", x.pieces(2), 45);
        Check.due("11: its spread", x.piece(0, 2), 22);
        // A break costs a price of its own: PIECES do not reach over it.
        x.deaf(1);
        Check.rows(x, 2, 31, 0, 0, 0);
        Check.due("10: one in each stretch", x.pieces(0), 2);
        Check.due("10: two stretches", x.pieces(1), 2);
        Check.due("11: the second one's first row", x.piece(1, 0), 5);
        Check.due("10: costs of both", x.pieces(2), 45 + 23);
        VoiceHeaps full = Check.ruled("price 999;");
        Check.rows(full, 48, 99, 99, 99, 99);
        Check.due("10: 48 rows in one", full.piece(0, 1), 48);
        Check.due("10: 48 rows in one", full.pieces(0), 1);
    }

    private static void ties() {
        // At price 11 one PIECE of 20, 31 costs as much as two.
        VoiceHeaps x = Check.ruled("price 11;");
        x.row(20, 0, 0, 0);
        x.row(31, 0, 0, 0);
        Check.due("10: of several the longest first piece", x.pieces(0), 1);
        Check.due("10: the cost is the same", x.pieces(2), 22);
        // 20 31 42: all in one, either cut and both cuts cost the same.
        x.row(42, 0, 0, 0);
        Check.due("10: of several all in one", x.pieces(0), 1);
        Check.due("10: costs", x.pieces(2), 33);
        // With 53 all in one costs 55, and three ahead 44, as two ahead do.
        x.row(53, 0, 0, 0);
        Check.due("11: three ahead", x.piece(0, 1), 3);
        Check.due("11: one behind", x.piece(1, 1), 1);
        Check.due("10: costs with 53", x.pieces(2), 44);
        // With 64 and 75: three ahead, and of what is left the longer one first.
        x.row(64, 0, 0, 0);
        x.row(75, 0, 0, 0);
        Check.due("11: three and three", x.piece(1, 1), 3);
        Check.due("10: costs of three and three", x.pieces(2), 66);
        VoiceHeaps free = Check.ruled("price 0;");
        Check.rows(free, 5, 30, 0, 0, 0);
        Check.due("10: without a price like ones stay together", free.pieces(0), 1);
        free.row(31, 0, 0, 0);
        Check.due("10: without a price unlike ones do not", free.pieces(0), 2);
        Check.due("10: and cost nothing", free.pieces(2), 0);
    }

    private static void likes() {
        VoiceHeaps x = new VoiceHeaps();
        Check.rows(x, 3, 20, 30, 10, 5);
        Check.rows(x, 2, 60, 30, 10, 5);
        x.deaf(1);
        Check.rows(x, 4, 25, 27, 11, 9);
        Check.due("13: far", x.like(0, 1), (40 - 40) * 2);
        Check.due("13: near", x.like(0, 2), (40 - 5 - 3 - 1 - 4) * 3);
        Check.due("13: turned", x.like(2, 0), 81);
        Check.due("13: below 0", x.like(1, 2), (40 - 35 - 3 - 1 - 4) * 2);
        Check.due("13: one and the same", x.like(1, 1), VoiceHeaps.NO);
        Check.due("13: p beyond", x.like(3, 0), VoiceHeaps.NO);
        Check.due("13: q beyond", x.like(0, 3), VoiceHeaps.NO);
        Check.due("13: p below", x.like(-1, 0), VoiceHeaps.NO);
        Check.due("13: q least", x.like(0, Integer.MIN_VALUE), VoiceHeaps.NO);
        Check.due("13: p most", x.like(Integer.MAX_VALUE, 0), VoiceHeaps.NO);
        Check.type(x, "like 399; turn 50;");
        x.rules();
        Check.due("13: a new rule; a turn does not count", x.like(0, 1), 359 * 2);
        VoiceHeaps many = Check.ruled("price 0;");
        for (int r = 0; r < 20; r++) {
            many.row(20 + r, 0, 0, 0);
        }
        Check.due("13: beyond 9 pieces, too", many.like(0, 19), 40 - 19);
    }
}

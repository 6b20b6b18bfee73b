/** Promises 14 to 19: heap, worth, near, sure, middle, twice. */
public final class HeapsTest {
    public static void main(String[] args) {
        none();
        bestAndJoined();
        joinedInAnotherWay();
        tiesOfBest();
        turns();
        nearOnes();
        middles();
        twoAtOnce();
        tiesOfTwo();
        tooManyPieces();
        ninePieces();
        Check.end();
    }

    /** PIECES of as many ROWS as told, each with one number that counts; a deaf ROW between. */
    private static VoiceHeaps apart(String rules, int... sizesAndNumbers) {
        VoiceHeaps x = Check.ruled(rules);
        for (int i = 0; i + 1 < sizesAndNumbers.length; i += 2) {
            Check.rows(x, sizesAndNumbers[i], sizesAndNumbers[i + 1], 0, 0, 0);
            x.deaf(1);
        }
        return x;
    }

    private static void heaps(String what, VoiceHeaps x, int way, int... want) {
        Check.due(what + ", pieces", x.pieces(0), want.length);
        for (int p = 0; p < want.length; p++) {
            Check.due(what + ", heap(" + p + ", " + way + ")", x.heap(p, way), want[p]);
        }
    }

    private static void none() {
        VoiceHeaps x = new VoiceHeaps();
        Check.due("14: no piece", x.heap(0, 0), VoiceHeaps.BAD);
        Check.due("15: BEST of none", x.worth(0), 0);
        Check.due("15: JOINED of none", x.worth(1), 0);
        int[] near = {1, 0, 0, 0, 0};
        for (int what = 0; what < 5; what++) {
            Check.due("16: of none near(" + what + ")", x.near(what), near[what]);
        }
        Check.due("17: no pieces", x.sure(0, 1), VoiceHeaps.BAD);
        Check.due("18: no heap", x.middle(0, 0), VoiceHeaps.BAD);
        Check.due("19: no piece", x.twice(0, 0), VoiceHeaps.BAD);
    }

    private static void bestAndJoined() {
        VoiceHeaps x = apart("price 20; like 10;", 1, 20, 1, 60, 1, 25, 1, 64, 1, 95);
        heaps("14: BEST", x, 0, 0, 1, 0, 1, 2);
        heaps("14: JOINED", x, 1, 0, 1, 0, 1, 2);
        Check.due("15: BEST", x.worth(0), 5 + 6);
        Check.due("15: JOINED", x.worth(1), 11);
        Check.due("16: HEAPS of BEST", x.near(3), 3);
        Check.due("16: HEAPS of JOINED", x.near(4), 3);
        for (int way : new int[] {-1, 2, Integer.MIN_VALUE, Integer.MAX_VALUE}) {
            Check.due("14: way = " + way, x.heap(0, way), VoiceHeaps.BAD);
            Check.due("15: way = " + way, x.worth(way), VoiceHeaps.NO);
        }
        for (int p : new int[] {-1, 5, Integer.MIN_VALUE, Integer.MAX_VALUE}) {
            Check.due("14: p = " + p, x.heap(p, 0), VoiceHeaps.BAD);
            Check.due("17: p = " + p, x.sure(p, 0), VoiceHeaps.BAD);
            Check.due("17: q = " + p, x.sure(0, p), VoiceHeaps.BAD);
            Check.due("19: p = " + p, x.twice(p, 0), VoiceHeaps.BAD);
        }
        Check.due("17: one and the same", x.sure(1, 1), VoiceHeaps.BAD);
        for (int what : new int[] {-1, 5, Integer.MIN_VALUE, Integer.MAX_VALUE}) {
            Check.due("16: what = " + what, x.near(what), VoiceHeaps.BAD);
        }
    }

    /** JOINED goes astray where the nearest two part what is best together. */
    private static void joinedInAnotherWay() {
        // LIKES of those side by side: 2, 3, 2; of the others -5, -5, -13.
        VoiceHeaps x = apart("price 20; like 10;", 1, 20, 1, 28, 1, 35, 1, 43);
        heaps("14: JOINED the nearest first", x, 1, 0, 1, 1, 2);
        Check.due("15: JOINED", x.worth(1), 3);
        heaps("14: BEST", x, 0, 0, 0, 1, 1);
        Check.due("15: BEST is greater", x.worth(0), 4);
        Check.due("16: HEAPS of both", x.near(3) * 10 + x.near(4), 23);
        // Joined while above 0 alone: at 0 two stay apart, and BEST takes the first in order, that is together.
        VoiceHeaps y = apart("price 20; like 10;", 1, 20, 1, 30);
        heaps("14: JOINED at 0", y, 1, 0, 1);
        heaps("14: BEST at 0 is the first", y, 0, 0, 0);
        Check.due("15: both are worth 0", y.worth(0) + y.worth(1), 0);
        Check.due("16: HEAPS of BEST", y.near(3), 1);
        Check.due("16: HEAPS of JOINED", y.near(4), 2);
        // Of several the two with the least first PIECES: 28-20 and 28-36 are both 2, all three are -2.
        VoiceHeaps z = apart("price 20; like 10;", 1, 28, 1, 20, 1, 36);
        heaps("14: JOINED at a tie", z, 1, 0, 0, 1);
        VoiceHeaps w = apart("price 20; like 10;", 1, 20, 1, 36, 1, 28);
        heaps("14: JOINED at a tie of later ones", w, 1, 0, 1, 0);
        // What is joined goes on by all LIKES between: 25-20 and 25-30 are 5, 20-30 is 0.
        VoiceHeaps v = apart("price 20; like 10;", 1, 25, 1, 20, 1, 30);
        heaps("14: JOINED goes on", v, 1, 0, 0, 0);
        Check.due("15: JOINED goes on", v.worth(1), 10);
    }

    private static void tiesOfBest() {
        // 25 may go to 20 or to 30, and all in one is as good (5 + 5 + 0).
        VoiceHeaps x = apart("price 20; like 10;", 1, 25, 1, 20, 1, 30);
        heaps("14: all in one", x, 0, 0, 0, 0);
        Check.due("15: its worth", x.worth(0), 10);
        VoiceHeaps y = apart("price 20; like 10;", 1, 20, 1, 32, 1, 26);
        // LIKES 20-32: -2, 20-26: 4, 32-26: 4: all in one is worth 6.
        heaps("14: against a dislike", y, 0, 0, 0, 0);
        VoiceHeaps z = apart("price 20; like 10;", 1, 20, 1, 36, 1, 28);
        // LIKES -6, 2, 2: {0,2},{1} and {0},{1,2} are worth 2: 0 1 0 is ahead of 0 1 1.
        heaps("14: of two the first", z, 0, 0, 1, 0);
        Check.due("16: both are near", z.near(0), 2);
        Check.due("17: that is not sure", z.sure(0, 2), 2);
        Check.due("17: nor that", z.sure(2, 1), 2);
        Check.due("17: this is", z.sure(1, 0), 0);
    }

    private static void turns() {
        // Two PIECES that TOUCH, 20 and 31 at price 5, L 40: LIKE is 29 for each ROW of the lesser.
        VoiceHeaps x = Check.ruled("price 5;");
        Check.rows(x, 2, 20, 0, 0, 0);
        Check.rows(x, 1, 31, 0, 0, 0);
        heaps("14: without a turn", x, 0, 0, 0);
        Check.due("15: without a turn", x.worth(0), 29);
        Check.type(x, "price 5; turn 28;");
        x.rules();
        heaps("14: a turn of 28", x, 1, 0, 0);
        Check.due("15: a turn of 28", x.worth(1), 1);
        Check.type(x, "price 5; turn 30;");
        x.rules();
        heaps("14: a turn of 30", x, 0, 0, 1);
        heaps("14: a turn of 30, JOINED", x, 1, 0, 1);
        Check.due("15: a turn of 30", x.worth(0), 0);
        Check.due("13: LIKE knows no turn", x.like(0, 1), 29);
        // Side by side in time, but not in one STRETCH: no TOUCH.
        VoiceHeaps y = Check.ruled("price 5; turn 30;");
        Check.rows(y, 2, 20, 0, 0, 0);
        y.deaf(1);
        Check.rows(y, 1, 31, 0, 0, 0);
        heaps("14: a break between", y, 0, 0, 0);
        Check.due("15: a break between", y.worth(0), 29);
    }

    private static void nearOnes() {
        // LIKES of 20, 25, 60 at 10: 5, -30, -25.
        VoiceHeaps x = apart("like 10; near 4;", 1, 20, 1, 25, 1, 60);
        Check.due("16: best alone", x.near(0), 1);
        Check.due("17: sure together", x.sure(0, 1), 1);
        Check.due("17: sure apart", x.sure(0, 2), 0);
        Check.type(x, "like 10; near 5;");
        x.rules();
        Check.due("16: one less by just 5", x.near(0), 2);
        Check.due("16: fewest", x.near(1), 2);
        Check.due("16: most", x.near(2), 3);
        Check.due("17: not sure", x.sure(1, 0), 2);
        Check.due("17: still apart", x.sure(2, 1), 0);
        Check.due("16: BEST has two", x.near(3), 2);
        Check.type(x, "like 10; near 30;");
        x.rules();
        // Worths: all in one -50, {0,1} 5, {0,2} -30, {1,2} -25, none 0: less 25 at least: three of them.
        Check.due("16: three near", x.near(0), 3);
        Check.due("17: now that is not sure", x.sure(1, 2), 2);
        Check.due("17: and this is", x.sure(0, 2), 0);
        Check.type(x, "like 10; near 9999;");
        x.rules();
        Check.due("16: all five", x.near(0), 5);
        Check.due("16: from one", x.near(1), 1);
        Check.due("16: to three", x.near(2), 3);
        Check.type(x, "like 10; near 4;");
        x.rules();
        Check.due("16: fewer again", x.near(0), 1);
        Check.due("16: no more than two", x.near(2), 2);
        Check.due("16: nor fewer", x.near(1), 2);
        Check.due("17: sure again", x.sure(0, 2), 0);
        Check.due("17: sure again, together", x.sure(0, 1), 1);
    }

    private static void middles() {
        VoiceHeaps x = new VoiceHeaps();
        x.row(20, 40, 60, 10);
        x.row(22, 40, 60, 12);
        x.deaf(1);
        x.row(90, 0, 0, 90);
        x.deaf(1);
        x.row(24, 41, 58, 10);
        Check.due("18: two heaps", x.near(3), 2);
        Check.due("18: of 20 22 24", x.middle(0, 0), 22);
        Check.due("18: of 40 40 41", x.middle(0, 1), 40);
        Check.due("18: of 60 60 58", x.middle(0, 2), 60);
        Check.due("18: of 10 12 10", x.middle(0, 3), 10);
        Check.due("18: the other", x.middle(1, 3), 90);
        x.row(26, 41, 58, 10);
        Check.due("18: the lower of four", x.middle(0, 0), 22);
        Check.due("18: no third", x.middle(2, 0), VoiceHeaps.BAD);
        Check.due("18: no ninth", x.middle(8, 0), VoiceHeaps.BAD);
        for (int wrong : new int[] {-1, 9, Integer.MIN_VALUE, Integer.MAX_VALUE}) {
            Check.due("18: heap = " + wrong, x.middle(wrong, 0), VoiceHeaps.BAD);
        }
        for (int wrong : new int[] {-1, 4, Integer.MIN_VALUE, Integer.MAX_VALUE}) {
            Check.due("18: i = " + wrong, x.middle(0, wrong), VoiceHeaps.BAD);
        }
    }

    /** 20 of 3 ROWS, 50 of 3, then 76 of 3 and 70 of 1 in a third HEAP, whose MIDDLE is 76. */
    private static VoiceHeaps twoAndTheirSum(String rules) {
        return apart(rules, 3, 20, 3, 50, 3, 76, 1, 70);
    }

    private static void twoAtOnce() {
        VoiceHeaps x = twoAndTheirSum("like 10; twice 6;");
        heaps("19: heaps", x, 0, 0, 1, 2, 2);
        Check.due("19: less by just 6: the lesser", x.twice(3, 0), 0);
        Check.due("19: less by just 6: the greater", x.twice(3, 1), 1);
        Check.due("19: the others are one", x.twice(2, 0), VoiceHeaps.NONE);
        Check.due("19: the others are one", x.twice(0, 1), VoiceHeaps.NONE);
        for (int what : new int[] {-1, 2, Integer.MIN_VALUE, Integer.MAX_VALUE}) {
            Check.due("19: what = " + what, x.twice(3, what), VoiceHeaps.BAD);
        }
        Check.type(x, "like 10; twice 7;");
        x.rules();
        Check.due("19: less by 7 it is not", x.twice(3, 0), VoiceHeaps.NONE);
        // As near as its own HEAP's MIDDLE: less by 0 at least.
        VoiceHeaps y = apart("like 10; twice 0;", 1, 20, 1, 40, 1, 60);
        Check.due("19: at 0 as near is enough", y.twice(2, 1), 1);
        Check.due("19: at 0 farther is not", y.twice(0, 0), VoiceHeaps.NONE);
        VoiceHeaps two = apart("like 10; twice 0;", 1, 20, 1, 40);
        Check.due("19: with two heaps there are no two others", two.twice(0, 0), VoiceHeaps.NONE);
        // 99 at most: 60 and 80 added are 99, not 140.
        VoiceHeaps z = apart("like 10; twice 4;", 3, 60, 3, 80, 3, 95, 1, 99);
        Check.due("19: sums end at 99: the lesser", z.twice(3, 0), 0);
        Check.due("19: sums end at 99: the greater", z.twice(3, 1), 1);
    }

    private static void tiesOfTwo() {
        // 10 + 60, 30 + 40, 25 + 45 are all 70; by the lesser HEAP first: 0 and the greater one with it.
        VoiceHeaps x = apart("like 5; twice 1;", 2, 30, 2, 10, 2, 60, 2, 40, 3, 74, 1, 70);
        Check.due("19: its own heap", x.heap(5, 0), x.heap(4, 0));
        Check.due("19: of several the lesser heap first", x.twice(5, 0), 0);
        Check.due("19: and the greater with it", x.twice(5, 1), 3);
        // 65 + 40 and 70 + 40 both end at 99: 0 with 1, 0 with 2.
        VoiceHeaps y = apart("like 5; twice 1;", 2, 60, 2, 66, 2, 72, 3, 95, 1, 99);
        Check.due("19: of several greater ones the first", y.twice(4, 0) * 10 + y.twice(4, 1), 1);
        // The nearest two are not the first two.
        VoiceHeaps z = apart("like 5; twice 1;", 2, 18, 2, 12, 2, 50, 3, 65, 1, 62);
        Check.due("19: the nearest two: the lesser", z.twice(4, 0), 1);
        Check.due("19: the nearest two: the greater", z.twice(4, 1), 2);
    }

    private static void tooManyPieces() {
        VoiceHeaps x = apart("like 10;", 1, 20, 1, 30, 1, 40, 1, 50, 1, 60, 1, 70, 1, 80, 1, 90, 1, 25);
        Check.due("14: nine go", x.heap(8, 0), 0);
        x.show();
        x.row(99, 99, 99, 99);
        Check.due("14: ten do not", x.heap(8, 0), VoiceHeaps.STATE);
        Check.due("14: ten do not", x.heap(9, 1), VoiceHeaps.STATE);
        Check.due("14: BAD ahead", x.heap(10, 0), VoiceHeaps.BAD);
        Check.due("14: BAD ahead", x.heap(9, 2), VoiceHeaps.BAD);
        Check.due("15: ten", x.worth(0), VoiceHeaps.NO);
        Check.due("15: ten", x.worth(1), VoiceHeaps.NO);
        for (int what = 0; what < 5; what++) {
            Check.due("16: ten", x.near(what), VoiceHeaps.STATE);
        }
        Check.due("16: BAD ahead", x.near(5), VoiceHeaps.BAD);
        Check.due("17: ten", x.sure(0, 9), VoiceHeaps.STATE);
        Check.due("17: BAD ahead", x.sure(0, 10), VoiceHeaps.BAD);
        Check.due("17: BAD ahead", x.sure(3, 3), VoiceHeaps.BAD);
        Check.due("18: ten", x.middle(8, 0), VoiceHeaps.STATE);
        Check.due("18: BAD ahead", x.middle(9, 0), VoiceHeaps.BAD);
        Check.due("18: BAD ahead", x.middle(0, 4), VoiceHeaps.BAD);
        Check.due("19: ten", x.twice(9, 0), VoiceHeaps.STATE);
        Check.due("19: BAD ahead", x.twice(10, 0), VoiceHeaps.BAD);
        Check.due("19: BAD ahead", x.twice(0, 2), VoiceHeaps.BAD);
        Check.due("25: ten", x.otherwise(), VoiceHeaps.STATE);
        x.out(18, 18, 1);
        Check.due("14: nine again", x.heap(8, 0), 0);
        Check.due("25: nine again", x.otherwise(), 0);
    }

    private static void ninePieces() {
        VoiceHeaps x = apart("like 40; near 9999;", 1, 20, 1, 30, 1, 40, 1, 50, 1, 60, 1, 70, 1, 80, 1, 90, 1, 15);
        Check.due("16: all heapings of nine", x.near(0), 21147);
        Check.due("16: from one", x.near(1), 1);
        Check.due("16: to nine", x.near(2), 9);
        for (int p = 0; p < 9; p++) {
            for (int q = 0; q < 9; q++) {
                Check.due("17: sure(" + p + ", " + q + ")", x.sure(p, q), p == q ? VoiceHeaps.BAD : 2);
            }
        }
    }
}

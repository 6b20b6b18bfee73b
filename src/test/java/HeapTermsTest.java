/** The terms of the document that need HEAPS, and those of voices and words, at the edges that they name. */
public final class HeapTermsTest {
    public static void main(String[] args) {
        nineAndTen();
        likeOfTheLesser();
        likeAtItsEnds();
        heapsAsTheyCome();
        firstOfSeveralBest();
        nearByJustE();
        nearAtTheGreatestE();
        sureAtTheEdge();
        sureOfNine();
        joinedAboveNothing();
        joinedOfSeveral();
        twiceByJustW();
        twiceAtTheGreatestW();
        twiceNotInItsOwn();
        twiceOfTheFirstAndTheNinth();
        voicesKept();
        backAtJustL();
        oddsOfAll();
        otherwiseByRow();
        otherwiseOfTheNinth();
        hungOfSeveral();
        truthsAndHeaps();
        fiveTruthsFiveHeaps();
        weightsAtTheirEnds();
        weightBeyondNine();
        Check.end();
    }

    /** PIECES of as many ROWS as told, each with one number that counts; a deaf ROW between. */
    private static VoiceHeaps apart(String rules, int... sizesAndNumbers) {
        VoiceHeaps x = Check.ruled(rules);
        for (int i = 0; i + 1 < sizesAndNumbers.length; i += 2) {
            Check.rows(x, sizesAndNumbers[i], sizesAndNumbers[i + 1], 0, 0, 0);
            x.deaf(1);
        }
        return x;
    }

    private static void rule(VoiceHeaps x, String text) {
        Check.type(x, text);
        Check.holds("rules " + text, x.rules() >= 0);
    }

    private static void heaps(String what, VoiceHeaps x, int way, int... want) {
        Check.due(what + ", PIECES", x.pieces(0), want.length);
        for (int p = 0; p < want.length; p++) {
            Check.due(what + ", heap(" + p + ", " + way + ")", x.heap(p, way), want[p]);
        }
    }

    /** "(With more than 9 PIECES, what needs HEAPS is STATE.)", "(A HEAP's number beyond 0 .. 8 is BAD at once ..)" */
    private static void nineAndTen() {
        VoiceHeaps x = apart("hush 0; like 1; near 0;", 1, 10, 1, 20, 1, 30, 1, 40, 1, 50, 1, 60, 1, 70, 1, 80, 1, 90);
        heaps("Terms 3: nine alone", x, 0, 0, 1, 2, 3, 4, 5, 6, 7, 8);
        heaps("Terms 3: nine alone, JOINED", x, 1, 0, 1, 2, 3, 4, 5, 6, 7, 8);
        Check.due("Terms 3: HEAP 8's MIDDLE", x.middle(8, 0), 90);
        Check.due("Terms 3: HEAP 8 is kept", x.keep(8, 1), 0);
        Check.due("Terms 3: HEAP 8 is back", x.back(8, 0), 1);
        Check.due("Terms 3: HEAP 8's odds", x.odds(8, 0, 0), 1);
        Check.due("Terms 3: HEAP 8's odds of", x.odds(8, 0, 1), 9);
        Check.due("Terms 3: HEAP 9 at nine", x.middle(9, 0), VoiceHeaps.BAD);
        Check.due("Terms 3: show at nine", x.show(), 18);
        Check.due("Terms 3: a tenth", x.row(99, 0, 0, 0), 18);
        Check.due("Terms 3: ten PIECES", x.pieces(0), 10);
        int[] stateful = {x.heap(0, 0), x.heap(9, 1), x.near(0), x.near(1), x.near(2), x.near(3), x.near(4), x.sure(0, 9),
            x.middle(0, 0), x.middle(8, 3), x.twice(0, 0), x.twice(9, 1), x.keep(0, 1), x.keep(8, 99), x.back(0, 0),
            x.back(8, 1), x.odds(0, 0, 0), x.odds(8, 0, 1), x.show(), x.otherwise(), x.errors(2)};
        for (int k = 0; k < stateful.length; k++) {
            Check.due("Terms 3: at ten, call " + k, stateful[k], VoiceHeaps.STATE);
        }
        Check.due("Terms 3: at ten, HEAP 9", x.middle(9, 0), VoiceHeaps.BAD);
        Check.due("Terms 3: at ten, HEAP -1", x.middle(-1, 0), VoiceHeaps.BAD);
        Check.due("Terms 3: at ten, worth", x.worth(0), VoiceHeaps.NO);
        Check.due("Terms 3: at ten, LIKE needs no HEAPS", x.like(0, 9), 1 - 89);
        Check.due("Terms 3: at ten, nor do MISSED", x.errors(0), 0);
        Check.due("Terms 3: nor MADE UP", x.errors(1), 10);
        rule(x, "hush 11; like 1;");
        Check.due("Terms 3: a hushed one, nine PIECES", x.pieces(0), 9);
        Check.due("Terms 3: nine go again", x.near(3), 9);
        Check.due("Terms 3: a HEAP that there is not", apart("like 99;", 1, 20, 1, 30).middle(1, 0), VoiceHeaps.BAD);
        Check.due("Terms 3: none but 0 .. 8 without PIECES", new VoiceHeaps().middle(0, 0), VoiceHeaps.BAD);
    }

    /** "LIKE of two PIECES: (L less OFF) times the lesser number of ROWS." */
    private static void likeOfTheLesser() {
        VoiceHeaps x = apart("hush 0; price 999; like 20;", 1, 50, 5, 57, 9, 80, 20, 30);
        int[] sizes = {1, 5, 9, 20};
        int[] numbers = {50, 57, 80, 30};
        for (int p = 0; p < 4; p++) {
            for (int q = 0; q < 4; q++) {
                int want = (20 - Math.abs(numbers[p] - numbers[q])) * Math.min(sizes[p], sizes[q]);
                Check.due("Terms 3: like(" + p + ", " + q + ")", x.like(p, q), p == q ? VoiceHeaps.NO : want);
            }
        }
    }

    private static void likeAtItsEnds() {
        for (int like : new int[] {0, 395, 396, 397, 399}) {
            VoiceHeaps x = Check.ruled("hush 0; price 999; like " + like + ";");
            Check.rows(x, 23, 0, 0, 0, 0);
            x.deaf(1);
            Check.rows(x, 24, 99, 99, 99, 99);
            Check.due("Terms 3: the farthest at L = " + like, x.like(0, 1), (like - 396) * 23);
            Check.due("Terms 3: one HEAP at L = " + like, x.near(3), like >= 396 ? 1 : 2);
            Check.due("Terms 3: JOINED at L = " + like, x.near(4), like > 396 ? 1 : 2);
            Check.due("Terms 3: worth at L = " + like, x.worth(0), Math.max(0, (like - 396) * 23));
        }
        VoiceHeaps same = apart("like 0;", 5, 50, 5, 50);
        Check.due("Terms 3: at L = 0 the same are worth nothing", same.like(0, 1), 0);
        heaps("Terms 3: at L = 0 the same", same, 0, 0, 0);
        heaps("Terms 3: at L = 0 the same, JOINED", same, 1, 0, 1);
    }

    /** "HEAPS are numbered from 0 as they come". */
    private static void heapsAsTheyCome() {
        VoiceHeaps x = apart("like 5;", 1, 90, 1, 20, 1, 50, 1, 20, 1, 90, 1, 70, 1, 50);
        heaps("Terms 3: as they come", x, 0, 0, 1, 2, 1, 0, 3, 2);
        heaps("Terms 3: as they come, JOINED", x, 1, 0, 1, 2, 1, 0, 3, 2);
        x.out(0, 1, 1);
        heaps("Terms 3: numbered anew", x, 0, 0, 1, 0, 2, 3, 1);
        heaps("Terms 3: numbered anew, JOINED", x, 1, 0, 1, 0, 2, 3, 1);
    }

    /** "BEST: the HEAPING of greatest WORTH, of several the first", in order by the HEAPS of PIECE 0, 1, .. */
    private static void firstOfSeveralBest() {
        // All LIKES are 0: every HEAPING is worth 0.
        VoiceHeaps x = apart("like 0;", 1, 50, 1, 50, 1, 50, 1, 50);
        heaps("Terms 3: of all the first", x, 0, 0, 0, 0, 0);
        Check.due("Terms 3: all 15", x.near(0), 15);
        // 50 is as like to 42 as to 58, that are unlike: the lesser HEAP's number has PIECE 1 or 2.
        heaps("Terms 3: 0 0 1 is ahead of 0 1 0", apart("like 10;", 1, 50, 1, 42, 1, 58), 0, 0, 0, 1);
        heaps("Terms 3: 0 1 0 is ahead of 0 1 1", apart("like 10;", 1, 42, 1, 58, 1, 50), 0, 0, 1, 0);
        // Two such threes: the first of 2 by 2.
        heaps("Terms 3: 0 1 0 2 3 2", apart("like 10;", 1, 12, 1, 28, 1, 20, 1, 62, 1, 78, 1, 70), 0, 0, 1, 0, 2, 3, 2);
    }

    /** "NEAR are HEAPINGS of WORTH of BEST less E at least". */
    private static void nearByJustE() {
        // LIKES 5 (0, 1), 2 (0, 2), -3 (1, 2): all in one are worth 4, 01|2 5, 02|1 2, 0|12 -3, all apart 0.
        int[] nearOnes = {1, 2, 2, 3, 3, 4, 4, 4, 5, 5};
        int[] fewest = {2, 1, 1, 1, 1, 1, 1, 1, 1, 1};
        int[] most = {2, 2, 2, 2, 2, 3, 3, 3, 3, 3};
        for (int near = 0; near < nearOnes.length; near++) {
            VoiceHeaps x = apart("like 10; near " + near + ";", 1, 50, 1, 55);
            x.row(49, 7, 0, 0);
            Check.due("Terms 3: BEST at E = " + near, x.worth(0), 5);
            Check.due("Terms 3: NEAR at E = " + near, x.near(0), nearOnes[near]);
            Check.due("Terms 3: the fewest at E = " + near, x.near(1), fewest[near]);
            Check.due("Terms 3: the most at E = " + near, x.near(2), most[near]);
            Check.due("Terms 3: HEAPS of BEST at E = " + near, x.near(3), 2);
        }
    }

    private static void nearAtTheGreatestE() {
        // Three alike of 11 ROWS: all in one are worth 3 * 11 * 303, two in one a third of that.
        VoiceHeaps x = apart("like 303; near 9999;", 11, 50, 11, 50, 11, 50);
        Check.due("Terms 3: worth 9999", x.worth(0), 9999);
        Check.due("Terms 3: less by just 9999", x.near(0), 5);
        Check.due("Terms 3: three VOICES", x.near(2), 3);
        rule(x, "like 303; near 9998;");
        Check.due("Terms 3: less by 9999 at E = 9998", x.near(0), 4);
        Check.due("Terms 3: no three VOICES", x.near(2), 2);
        VoiceHeaps far = apart("like 399; near 9999;", 15, 50, 15, 50, 15, 50);
        Check.due("Terms 3: far above 9999", far.worth(0), 17955);
        Check.due("Terms 3: none but BEST", far.near(0), 1);
        Check.due("Terms 3: sure", far.sure(0, 2), 1);
    }

    /** "SURE: two PIECES are in one HEAP in all NEAR ones (1), in none (0), else 2." */
    private static void sureAtTheEdge() {
        // LIKES 4 (0, 1), -20 (0, 2), -26 (1, 2): 01|2 is worth 4, all apart 0, 02|1 -20, 0|12 -26, all in one -42.
        int[] edges = {0, 3, 4, 23, 24, 29, 30, 45, 46};
        int[][] due = {{1, 0, 0}, {1, 0, 0}, {2, 0, 0}, {2, 0, 0}, {2, 2, 0}, {2, 2, 0}, {2, 2, 2}, {2, 2, 2}, {2, 2, 2}};
        for (int k = 0; k < edges.length; k++) {
            VoiceHeaps x = apart("like 10; near " + edges[k] + ";", 1, 50, 1, 44, 1, 80);
            Check.due("Terms 3: sure(0, 1) at E = " + edges[k], x.sure(0, 1), due[k][0]);
            Check.due("Terms 3: sure(2, 0) at E = " + edges[k], x.sure(2, 0), due[k][1]);
            Check.due("Terms 3: sure(1, 2) at E = " + edges[k], x.sure(1, 2), due[k][2]);
        }
        // All HEAPINGS that are as good as BEST have these two in one.
        VoiceHeaps ties = apart("like 10;", 1, 50, 1, 50, 1, 60);
        Check.due("Terms 3: 00 with 1 or without", ties.near(0), 2);
        Check.due("Terms 3: in all in one", ties.sure(1, 0), 1);
        Check.due("Terms 3: in some", ties.sure(1, 2), 2);
    }

    private static void sureOfNine() {
        VoiceHeaps x = apart("hush 0; like 5;", 1, 10, 1, 40, 1, 70, 1, 10, 1, 40, 1, 70, 1, 10, 1, 40, 1, 70);
        VoiceHeaps y = apart("hush 0; like 5; near 5;", 1, 10, 1, 43, 1, 76, 1, 21, 1, 54, 1, 87, 1, 32, 1, 65, 1, 10);
        for (int p = 0; p < 9; p++) {
            for (int q = 0; q < 9; q++) {
                int want = p == q ? VoiceHeaps.BAD : p % 3 == q % 3 ? 1 : 0;
                Check.due("Terms 3: three voices of nine, sure(" + p + ", " + q + ")", x.sure(p, q), want);
                // The first and the last are as like as E: those two alone are not sure, all others are 11 off at least.
                boolean isEnds = p + q == 8 && p * q == 0;
                Check.due("Terms 3: the ends of nine, sure(" + p + ", " + q + ")", y.sure(p, q),
                        p == q ? VoiceHeaps.BAD : isEnds ? 2 : 0);
            }
        }
        Check.due("Terms 3: the ends of nine, NEAR", y.near(0), 2);
        Check.due("Terms 3: the ends of nine, the fewest", y.near(1), 8);
        Check.due("Terms 3: the ends of nine, the most", y.near(2), 9);
    }

    /** "JOINED: .. is greatest, while that is above 0". */
    private static void joinedAboveNothing() {
        for (int off = 8; off <= 12; off++) {
            VoiceHeaps x = apart("like 10;", 1, 50, 1, 50 + off);
            heaps("Terms 3: JOINED at a LIKE of " + (10 - off), x, 1, 0, off < 10 ? 0 : 1);
            Check.due("Terms 3: JOINED is worth, at " + (10 - off), x.worth(1), Math.max(0, 10 - off));
        }
        // The LIKES between two HEAPS are added: 6 and -5 are above 0, 6 and -6 are not.
        VoiceHeaps x = apart("like 10;", 1, 50, 1, 57);
        x.row(46, 0, 0, 0);
        Check.due("Terms 3: 3", x.like(0, 1), 3);
        Check.due("Terms 3: 6", x.like(0, 2), 6);
        Check.due("Terms 3: -1", x.like(1, 2), -1);
        heaps("Terms 3: 3 less 1 is above 0", x, 1, 0, 0, 0);
        Check.due("Terms 3: JOINED is worth all", x.worth(1), 8);
        VoiceHeaps y = apart("like 10;", 1, 50, 1, 58, 1, 48);
        // 2, 8, 0: joined 8, then 2 and 0.
        heaps("Terms 3: 2 and 0 are above 0", y, 1, 0, 0, 0);
        VoiceHeaps z = apart("like 10;", 1, 50, 1, 58, 1, 46);
        // 2, 6, -2: joined 6, then 2 less 2.
        heaps("Terms 3: 2 less 2 is not", z, 1, 0, 1, 0);
        Check.due("Terms 3: HEAPS of JOINED", z.near(4), 2);
        heaps("Terms 3: BEST of those is the first of two as good", z, 0, 0, 0, 0);
    }

    /** "of several the two with the least first PIECES, first the one, then the other." */
    private static void joinedOfSeveral() {
        // LIKES of 5 between each two side by side: 0-1 first, then 01-2 ahead of 2-3; at last 3 brings 5, 0 and -5.
        heaps("Terms 3: of three pairs the first", apart("like 10;", 1, 50, 1, 55, 1, 60, 1, 65), 1, 0, 0, 0, 1);
        // 0-2 and 1-2 are alike, 0-1 not.
        heaps("Terms 3: the one first", apart("like 10;", 1, 45, 1, 55, 1, 50), 1, 0, 0, 0);
        heaps("Terms 3: the least one", apart("like 10;", 1, 42, 1, 58, 1, 50), 1, 0, 1, 0);
        // 0-1 and 0-2 are alike, 1-2 not.
        heaps("Terms 3: then the other", apart("like 10;", 1, 50, 1, 42, 1, 58), 1, 0, 0, 1);
        // 0-3 and 1-2 are as good: the least one counts, not the least other.
        heaps("Terms 3: the one counts ahead of the other", apart("like 10;", 1, 20, 1, 60, 1, 68, 1, 28), 1, 0, 1, 1, 0);
        VoiceHeaps x = apart("like 10;", 1, 30, 1, 46, 1, 38, 1, 22);
        // 0-2, 1-2 and 0-3 are worth 2: 0-2 comes first, then 1 and 3 are left out.
        heaps("Terms 3: 0-2 ahead of 0-3 and 1-2", x, 1, 0, 1, 0, 2);
        Check.due("Terms 3: JOINED is worth 2", x.worth(1), 2);
        Check.due("Terms 3: BEST is worth 4", x.worth(0), 4);
        heaps("Terms 3: BEST has both", x, 0, 0, 1, 1, 0);
        // A HEAP goes by its first PIECE: {0, 3} with 2 against 1 with 2.
        VoiceHeaps y = apart("like 30;", 2, 50, 1, 72, 1, 61, 2, 49);
        Check.due("Terms 3: the nearest", y.like(0, 3), 58);
        Check.due("Terms 3: 0-1", y.like(0, 1) + y.like(3, 1), 8 + 7);
        Check.due("Terms 3: 0-2", y.like(0, 2) + y.like(3, 2), 19 + 18);
        Check.due("Terms 3: 1-2", y.like(1, 2), 19);
        heaps("Terms 3: all in one by and by", y, 1, 0, 0, 0, 0);
    }

    /** "its MIDDLE differs less by W at least than by that of its own HEAP". */
    private static void twiceByJustW() {
        // HEAPS 20, 50 and 76 (three ROWS of 76, one of 70): 70 is off its own by 6, off 20 + 50 by 0.
        for (int w = 0; w < 9; w++) {
            VoiceHeaps x = apart("like 10; twice " + w + ";", 3, 20, 3, 50, 3, 76, 1, 70);
            Check.due("Terms 3: two at once at W = " + w, x.twice(3, 0), w <= 6 ? 0 : VoiceHeaps.NONE);
            Check.due("Terms 3: the greater at W = " + w, x.twice(3, 1), w <= 6 ? 1 : VoiceHeaps.NONE);
        }
        // 72 is off its own by 4, off 70 by 2.
        for (int w = 0; w < 5; w++) {
            VoiceHeaps x = apart("like 10; twice " + w + ";", 3, 20, 3, 50, 3, 76, 1, 72);
            Check.due("Terms 3: less by 2 at W = " + w, x.twice(3, 1), w <= 2 ? 1 : VoiceHeaps.NONE);
        }
        // 68 is off its own by 8, off 70 by 2 on the other side.
        for (int w = 5; w < 8; w++) {
            VoiceHeaps x = apart("like 10; twice " + w + ";", 3, 20, 3, 50, 3, 76, 1, 68);
            Check.due("Terms 3: from below at W = " + w, x.twice(3, 1), w <= 6 ? 1 : VoiceHeaps.NONE);
        }
    }

    private static void twiceAtTheGreatestW() {
        // W at first is 10.
        VoiceHeaps x = apart("like 20; near 0;", 3, 20, 3, 50, 3, 80, 1, 70);
        heaps("Terms 3: heaps of 20 50 80", x, 0, 0, 1, 2, 2);
        Check.due("Terms 3: less by just 10", x.twice(3, 0), 0);
        rule(x, "like 20; twice 11;");
        Check.due("Terms 3: 10 at W = 11", x.twice(3, 0), VoiceHeaps.NONE);
        rule(x, "like 20; twice 399;");
        for (int p = 0; p < 4; p++) {
            Check.due("Terms 3: none at W = 399", x.twice(p, 0), VoiceHeaps.NONE);
        }
        // Each number by itself, 99 at most: 60 + 60 is 99, 30 + 30 is 60.
        VoiceHeaps y = Check.ruled("like 30; twice 9;");
        int[][] rows = {{60, 30, 0, 99}, {60, 30, 1, 99}, {99, 60, 1, 90}, {99, 60, 1, 99}};
        int[] times = {2, 2, 3, 1};
        for (int p = 0; p < 4; p++) {
            Check.rows(y, times[p], rows[p][0], rows[p][1], rows[p][2], rows[p][3]);
            y.deaf(1);
        }
        heaps("Terms 3: the first two are one voice", y, 0, 0, 0, 1, 1);
        Check.due("Terms 3: so there are not two others", y.twice(3, 0), VoiceHeaps.NONE);
        VoiceHeaps z = Check.ruled("like 30; twice 9;");
        rows = new int[][] {{60, 30, 0, 40}, {60, 30, 1, 90}, {99, 60, 1, 90}, {99, 60, 1, 99}};
        for (int p = 0; p < 4; p++) {
            Check.rows(z, times[p], rows[p][0], rows[p][1], rows[p][2], rows[p][3]);
            z.deaf(1);
        }
        heaps("Terms 3: the first two are two", z, 0, 0, 1, 2, 2);
        Check.due("Terms 3: each number ends at 99", z.twice(3, 0), 0);
        Check.due("Terms 3: each number ends at 99, the greater", z.twice(3, 1), 1);
    }

    /** "two HEAPS of BEST that it is not in". */
    private static void twiceNotInItsOwn() {
        // 0 and 50 added are 50: but 50 is in one of them.
        VoiceHeaps x = apart("hush 0; like 10; twice 0;", 3, 0, 3, 50, 3, 53, 3, 90);
        heaps("Terms 3: heaps of 0 50 53 90", x, 0, 0, 1, 1, 2);
        for (int p = 0; p < 4; p++) {
            Check.due("Terms 3: its own HEAP is none of the two, PIECE " + p, x.twice(p, 0), VoiceHeaps.NONE);
        }
        // At W = 0 a PIECE alone in its HEAP, off by 0, is two where two others are just that.
        VoiceHeaps y = apart("hush 0; like 10; twice 0;", 3, 0, 3, 50, 3, 30, 3, 80);
        Check.due("Terms 3: 80 is 50 and 30: the lesser", y.twice(3, 0), 1);
        Check.due("Terms 3: 80 is 50 and 30: the greater", y.twice(3, 1), 2);
        Check.due("Terms 3: 50 is nothing of 0, 30, 80", y.twice(1, 0), VoiceHeaps.NONE);
    }

    private static void twiceOfTheFirstAndTheNinth() {
        VoiceHeaps x = apart("like 10; twice 6;", 1, 70, 3, 76, 3, 20, 3, 50);
        Check.due("Terms 3: the first PIECE is two, the lesser", x.twice(0, 0), 1);
        Check.due("Terms 3: the first PIECE is two, the greater", x.twice(0, 1), 2);
        VoiceHeaps y = apart("hush 0; like 4; twice 1;", 1, 11, 1, 21, 1, 26, 1, 31, 1, 90, 1, 96, 1, 80, 2, 59, 1, 57);
        heaps("Terms 3: nine in eight", y, 0, 0, 1, 2, 3, 4, 5, 6, 7, 7);
        Check.due("Terms 3: the ninth PIECE is two, the lesser", y.twice(8, 0), 2);
        Check.due("Terms 3: the ninth PIECE is two, the greater", y.twice(8, 1), 3);
        // The last two HEAPS of nine may be those two, at W = 0.
        VoiceHeaps w = apart("hush 0; like 0; twice 0;", 1, 83, 1, 2, 1, 4, 1, 8, 1, 12, 1, 16, 1, 20, 1, 41, 1, 42);
        Check.due("Terms 3: HEAPS 7 and 8, the lesser", w.twice(0, 0), 7);
        Check.due("Terms 3: HEAPS 7 and 8, the greater", w.twice(0, 1), 8);
    }

    /** "VOICES KEPT (6 at most) are MIDDLES of HEAPS of BEST, with a NAME 1 .. 99". */
    private static void voicesKept() {
        VoiceHeaps x = apart("like 5;", 2, 20, 2, 40, 2, 60);
        int[] names = {1, 99, 50, 2, 98, 7};
        for (int v = 0; v < 6; v++) {
            Check.due("Terms 4: VOICE " + v, x.keep(v % 3, names[v]), v);
        }
        Check.due("Terms 4: a seventh", x.keep(0, 3), VoiceHeaps.FULL);
        Check.due("Terms 4: a seventh by a name that there is", x.keep(0, 1), VoiceHeaps.FULL);
        // A KEPT VOICE stays where its HEAP was.
        x.row(26, 0, 0, 0);
        x.out(0, 1, 1);
        x.forget(0);
        x.forget(2);
        Check.due("Terms 4: four are left", x.count(3), 4);
        rule(x, "like 25;");
        x.hush();
        Check.rows(x, 2, 62, 0, 0, 0);
        Check.due("Terms 4: 60 is the nearest to 62, and moved up", x.back(0, 1), 1);
        Check.due("Terms 4: with its name", x.back(0, 0), 50);
        x.forget(1);
        Check.due("Terms 4: the other one of 60", x.back(0, 1), 2);
        Check.due("Terms 4: with its name", x.back(0, 0), 7);
        x.forget(2);
        Check.due("Terms 4: then those of 40", x.back(0, 0), 99);
        Check.due("Terms 4: behind them room again", x.keep(0, 11), 2);
        for (int v = 3; v < 6; v++) {
            Check.due("Terms 4: up to six again", x.keep(0, 12), v);
        }
        Check.due("Terms 4: six again", x.keep(0, 13), VoiceHeaps.FULL);
        Check.due("Terms 4: the last one's name", x.forget(5), 12);
        Check.due("Terms 4: no sixth", x.forget(5), VoiceHeaps.BAD);
    }

    /** "BACK: .. that its MIDDLE is OFF least, if that is L at most; of several the first; NONE." */
    private static void backAtJustL() {
        for (int like : new int[] {0, 1, 9, 10, 11, 399}) {
            VoiceHeaps x = apart("like " + like + ";", 2, 50);
            x.keep(0, 5);
            Check.due("Terms 4: off by 0 at L = " + like, x.back(0, 0), 5);
            x.hush();
            x.row(47, 7, 0, 0);
            Check.due("Terms 4: off by 10 at L = " + like, x.back(0, 0), like >= 10 ? 5 : VoiceHeaps.NONE);
            Check.due("Terms 4: its number at L = " + like, x.back(0, 1), like >= 10 ? 0 : VoiceHeaps.NONE);
        }
        // As far on either side: the first, whichever that is.
        VoiceHeaps x = apart("like 5;", 2, 40, 2, 60);
        x.keep(1, 61);
        x.keep(0, 41);
        rule(x, "like 15;");
        x.hush();
        x.row(50, 0, 0, 0);
        Check.due("Terms 4: of several the first", x.back(0, 0), 61);
        x.hush();
        x.row(49, 0, 0, 0);
        Check.due("Terms 4: the nearest, not the first", x.back(0, 0), 41);
        x.hush();
        x.row(51, 0, 0, 0);
        Check.due("Terms 4: the nearest", x.back(0, 0), 61);
        // The farthest that two MIDDLES can be is 396.
        VoiceHeaps far = Check.ruled("hush 0; like 396;");
        far.row(0, 0, 0, 0);
        far.keep(0, 8);
        far.hush();
        far.row(99, 99, 99, 99);
        Check.due("Terms 4: off by 396 at L = 396", far.back(0, 0), 8);
        rule(far, "hush 0; like 395;");
        Check.due("Terms 4: off by 396 at L = 395", far.back(0, 0), VoiceHeaps.NONE);
    }

    /** "ODDS: of all ways to choose as many PIECES as the HEAP has of all, in how many .. as much at most". */
    private static void oddsOfAll() {
        VoiceHeaps one = apart("like 10;", 2, 50);
        one.keep(0, 1);
        Check.due("Terms 4: one of one", one.odds(0, 0, 0), 1);
        Check.due("Terms 4: of one", one.odds(0, 0, 1), 1);
        VoiceHeaps nine = apart("hush 0; like 99;", 1, 10, 1, 20, 1, 30, 1, 40, 1, 50, 1, 60, 1, 70, 1, 80, 1, 90);
        nine.keep(0, 1);
        Check.due("Terms 4: all nine in one", nine.near(3), 1);
        Check.due("Terms 4: all nine are one way", nine.odds(0, 0, 1), 1);
        Check.due("Terms 4: as much as themselves", nine.odds(0, 0, 0), 1);
        // 4 of 9 in HEAP 0, 5 in HEAP 1: 126 ways.
        VoiceHeaps halves = apart("hush 0; like 9;", 1, 10, 1, 11, 1, 12, 1, 13, 1, 60, 1, 61, 1, 62, 1, 63, 1, 64);
        halves.keep(0, 1);
        halves.keep(1, 2);
        Check.due("Terms 4: 4 of 9", halves.odds(0, 0, 1), 126);
        Check.due("Terms 4: 5 of 9", halves.odds(1, 0, 1), 126);
        Check.due("Terms 4: the four nearest", halves.odds(0, 0, 0), 1);
        Check.due("Terms 4: the five farthest", halves.odds(1, 0, 0), 126);
        Check.due("Terms 4: the five nearest", halves.odds(1, 1, 0), 1);
        Check.due("Terms 4: the four farthest", halves.odds(0, 1, 0), 126);
        // The PIECES' MIDDLES count, each as one, not their ROWS: 50 of 1 ROW, 40 of 9, 53, 48.
        VoiceHeaps sizes = apart("like 5;", 1, 50, 9, 40, 2, 53, 1, 30);
        sizes.keep(0, 1);
        Check.due("Terms 4: HEAP 0 is 50 and 53", sizes.heap(2, 0) + sizes.heap(1, 0), 1);
        // The VOICE is 53 (the lower of 50 53 53): off 3, 13, 0, 23: 3 is the least of two.
        Check.due("Terms 4: two of four", sizes.odds(0, 0, 1), 6);
        Check.due("Terms 4: the least two", sizes.odds(0, 0, 0), 1);
        Check.due("Terms 4: 13 alone", sizes.odds(1, 0, 0), 3);
        Check.due("Terms 4: 23 alone", sizes.odds(2, 0, 0), 4);
    }

    /** "SHOW keeps for each ROW its HEAP by BEST (NONE: not HEARD). OTHERWISE: ROWS that were there then, .." */
    private static void otherwiseByRow() {
        VoiceHeaps x = Check.ruled("like 10;");
        Check.due("Terms 4: nothing was shown", x.otherwise(), VoiceHeaps.STATE);
        Check.due("Terms 4: no ROWS are shown", x.show(), 0);
        Check.due("Terms 4: that was shown", x.otherwise(), 0);
        Check.rows(x, 2, 20, 0, 0, 0);
        Check.due("Terms 4: ROWS that were not there then", x.otherwise(), 0);
        Check.due("Terms 4: two", x.show(), 2);
        Check.rows(x, 2, 60, 0, 0, 0);
        Check.due("Terms 4: two more do not count", x.otherwise(), 0);
        x.out(0, 0, 1);
        Check.due("Terms 4: one is not HEARD now", x.otherwise(), 1);
        x.out(1, 1, 1);
        Check.due("Terms 4: two are not", x.otherwise(), 2);
        x.out(2, 3, 1);
        Check.due("Terms 4: those two alone", x.otherwise(), 2);
        Check.due("Terms 4: all are shown as NONE", x.show(), 4);
        Check.due("Terms 4: as shown", x.otherwise(), 0);
        x.out(3, 3, 0);
        Check.due("Terms 4: one is HEARD now", x.otherwise(), 1);
        x.truth(0, 3, 2);
        x.word(0, 3);
        Check.due("Terms 4: TRUTHS and WORDS do not count", x.otherwise(), 1);
        x.hush();
        Check.due("Terms 4: hush: nothing is shown", x.otherwise(), VoiceHeaps.STATE);
        VoiceHeaps full = Check.ruled("hush 0; price 999; like 10;");
        Check.rows(full, 24, 20, 0, 0, 0);
        full.deaf(1);
        Check.rows(full, 23, 60, 0, 0, 0);
        Check.due("Terms 4: 48 are shown", full.show(), 48);
        full.out(0, 23, 1);
        Check.due("Terms 4: all that were HEARD have another", full.otherwise(), 47);
    }

    private static void otherwiseOfTheNinth() {
        for (int p = 0; p < 9; p++) {
            VoiceHeaps x = apart("hush 0; like 1;", 1, 10, 1, 20, 1, 30, 1, 40, 1, 50, 1, 60, 1, 70, 1, 80, 1, 90);
            x.show();
            x.out(2 * p, 2 * p, 1);
            // The HEAPS behind it are numbered anew.
            Check.due("Terms 4: of nine, PIECE " + p + " is OUT now", x.otherwise(), 9 - p);
            x.show();
            x.out(2 * p, 2 * p, 0);
            Check.due("Terms 4: of nine, PIECE " + p + " was OUT then", x.otherwise(), 9 - p);
        }
    }

    /** "HUNG: on the PIECE that has most of these, of several the first; NONE. PARTED: .. some of them." */
    private static void hungOfSeveral() {
        VoiceHeaps x = apart("price 0; hush 10;", 3, 20, 3, 30, 4, 40, 1, 50);
        // ROWS 0 .. 2, 4 .. 6, 8 .. 11, 13; 3, 7, 12, 14 are deaf.
        int[][] fromToHungParted = {{0, 0, 0, 1}, {2, 4, 0, 2}, {1, 4, 0, 2}, {2, 5, 1, 2}, {0, 6, 0, 2}, {0, 14, 2, 4},
            {3, 3, VoiceHeaps.NONE, 0}, {14, 14, VoiceHeaps.NONE, 0}, {12, 14, 3, 1}, {11, 13, 2, 2}, {3, 7, 1, 1}, {0, 10, 0, 3}};
        for (int w = 0; w < 12; w++) {
            int[] row = fromToHungParted[w];
            Check.due("Terms 4: WORD " + w, x.word(row[0], row[1]), w);
            Check.due("Terms 4: HUNG " + w, x.hung(w, 0), row[2]);
            Check.due("Terms 4: PARTED " + w, x.hung(w, 1), row[3]);
        }
        Check.due("Terms 4: a 13th WORD", x.word(0, 0), VoiceHeaps.FULL);
        rule(x, "hush 21;");
        Check.due("Terms 4: on a hushed ROW", x.hung(0, 0), VoiceHeaps.NONE);
        Check.due("Terms 4: PARTED by none", x.hung(0, 1), 0);
        Check.due("Terms 4: numbered anew", x.hung(2, 0), 0);
    }

    /** "HEAPS are given to TRUTHS 1 .. 5, each to one at most, each TRUTH one at most, so that WRONG is least." */
    private static void truthsAndHeaps() {
        // One HEAP, all TRUTHS: one of them is right.
        VoiceHeaps x = apart("like 10;", 12, 50);
        int[] sizes = {0, 1, 2, 3, 2, 4};
        int row = 0;
        for (int t = 1; t <= 5; t++) {
            x.truth(row, row + sizes[t] - 1, t);
            row += sizes[t];
        }
        Check.due("Terms 4: WRONG in one HEAP", x.errors(2), 12 - 4);
        Check.due("Terms 4: none is MISSED", x.errors(0), 0);
        x.truth(12, 12, 1);
        Check.due("Terms 4: a deaf one is MISSED", x.errors(0), 1);
        Check.due("Terms 4: and not WRONG", x.errors(2), 8);
        x.truth(0, 7, 0);
        Check.due("Terms 4: eight of nobody", x.errors(1), 8);
        Check.due("Terms 4: they are not WRONG", x.errors(2), 0);
        // Nine HEAPS, five TRUTHS: four HEAPS are given to none, the ones with fewest ROWS.
        VoiceHeaps y = apart("hush 0; like 1;", 1, 10, 2, 20, 3, 30, 4, 40, 5, 50, 6, 60, 7, 70, 1, 80, 1, 90);
        Check.due("Terms 4: nine HEAPS", y.near(3), 9);
        y.truth(0, y.count(0) - 1, 5);
        Check.due("Terms 4: all of one TRUTH", y.errors(2), 30 - 7);
        int from = 0;
        for (int h = 0; h < 9; h++) {
            int size = y.piece(h, 1);
            y.truth(from, from + size - 1, 1 + h % 5);
            from += size + 1;
        }
        // 1: 1 or 6, 2: 2 or 7, 3: 3 or 1, 4: 4 or 1, 5: 5.
        Check.due("Terms 4: each TRUTH its greatest HEAP", y.errors(2), 30 - 6 - 7 - 3 - 4 - 5);
        // HEAP 0 has 1: 3, 2: 3, 3: 2; HEAP 1 has 1: 3, 2: 1: 0 to 2 and 1 to 1.
        VoiceHeaps z = apart("like 10;", 8, 20, 4, 60);
        z.truth(0, 2, 1);
        z.truth(3, 5, 2);
        z.truth(6, 7, 3);
        z.truth(9, 11, 1);
        z.truth(12, 12, 2);
        Check.due("Terms 4: each HEAP to one TRUTH", z.errors(2), 12 - 3 - 3);
        z.out(0, 11, 1);
        Check.due("Terms 4: OUT ones are MISSED", z.errors(0), 11);
        Check.due("Terms 4: one is left", z.errors(2), 0);
        Check.due("Terms 4: without ROWS none is WRONG", new VoiceHeaps().errors(2), 0);
    }

    private static void fiveTruthsFiveHeaps() {
        // HEAP h goes to TRUTH (a * h + b) modulo 5, in as many orders.
        for (int a = 1; a < 5; a++) {
            for (int b = 0; b < 5; b++) {
                VoiceHeaps x = apart("hush 0; like 1;", 2, 10, 2, 20, 2, 30, 2, 40, 2, 50);
                for (int h = 0; h < 5; h++) {
                    x.truth(3 * h, 3 * h + 1, 1 + (a * h + b) % 5);
                }
                Check.due("Terms 4: all are right, order " + a + " " + b, x.errors(2), 0);
                x.truth(0, 0, 1 + (b + 1) % 5);
                Check.due("Terms 4: one is WRONG, order " + a + " " + b, x.errors(2), 1);
            }
        }
    }

    /** WEIGHT: rounding, "0 at least", "modulo 89". */
    private static void weightsAtTheirEnds() {
        // TALK from 1 to 8: one ROW, its first number, no SPREAD.
        for (int first = 0; first < 8; first++) {
            VoiceHeaps x = Check.ruled("hush 0;");
            x.row(first, 0, 0, 0);
            int talk = 1 + first;
            int[] want = {1, talk, talk, talk / 2 + talk % 2, talk < 3 ? 0 : talk - 3, talk / 3, talk, 1};
            for (int kind = 0; kind < 8; kind++) {
                Check.due("Terms 4: weight(" + kind + ") of a first number " + first, x.weight(kind, 0), want[kind]);
            }
        }
        int[] squares = {1, 4, 9, 16, 25, 36, 49, 64, 81, 11, 32, 55, 80, 18, 47, 78};
        for (int n = 1; n <= 16; n++) {
            VoiceHeaps x = Check.ruled("hush 0;");
            Check.rows(x, n, 0, 0, 0, 0);
            Check.due("Terms 4: NOISE of " + n, x.weight(7, 0), squares[n - 1]);
        }
        VoiceHeaps most = Check.ruled("hush 0;");
        Check.rows(most, 48, 99, 99, 99, 99);
        Check.due("Terms 4: NOISE of 48", most.weight(7, 0), 79);
        Check.due("Terms 4: VOICE of 48", most.weight(1, 0), 147);
        for (int v = 0; v < 6; v++) {
            Check.due("Terms 4: KNOWN with " + v, most.weight(6, 0), 147 + 7 * v);
            most.keep(0, 9);
        }
        Check.due("Terms 4: KNOWN with six", most.weight(6, 0), 147 + 42);
        most.forget(3);
        Check.due("Terms 4: KNOWN with five", most.weight(6, 0), 147 + 35);
        Check.due("Terms 4: THE TRACE of these", most.trace(), 10000001L + 11L + 8 * 1000011L);
    }

    private static void weightBeyondNine() {
        VoiceHeaps x = Check.ruled("hush 0; price 0;");
        for (int r = 0; r < 48; r++) {
            x.row(r, 0, 0, 0);
        }
        Check.due("Terms 4: 48 PIECES", x.pieces(0), 48);
        Check.due("Terms 4: the last one's VOICE", x.weight(1, 47), 48);
        Check.due("Terms 4: no 49th", x.weight(1, 48), VoiceHeaps.BAD);
        Check.due("Terms 4: THE TRACE", x.trace(), 11);
        x.word(0, 47);
        Check.due("Terms 4: PARTED by 48", x.hung(0, 1), 48);
        Check.due("Terms 4: HUNG on the first of 48", x.hung(0, 0), 0);
    }
}

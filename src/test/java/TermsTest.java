import java.util.Arrays;

/** The terms of the document, sentence by sentence, at the edges that they name. */
public final class TermsTest {
    private static final String[] WORDS = {"price", "hush", "like", "near", "turn", "twice"};

    public static void main(String[] args) {
        rowsAndTheirNumbers();
        textOf200();
        everyByteAlone();
        everyByteBetween();
        blanksAnywhere();
        faultsInEachPlace();
        endsTooEarly();
        eachOnce();
        heardAtH();
        heardAtTheGreatestH();
        betweenStretches();
        lowerMiddles();
        cutsAtThePrice();
        ofSeveralCuts();
        touchInOneStretch();
        touchSideBySideAlone();
        Check.end();
    }

    /** "ROWS (48 at most, 0 .. in time) have four numbers 0 .. 99, or are DEAF." */
    private static void rowsAndTheirNumbers() {
        VoiceHeaps x = Check.ruled("hush 0; price 0;");
        for (int r = 0; r < 46; r++) {
            Check.due("Terms 1: ROW " + r, r % 2 == 0 ? x.row(0, 99, 0, 99) : x.deaf(1) - 1, r);
        }
        Check.due("Terms 1: three are too many at 46", x.deaf(3), VoiceHeaps.FULL);
        Check.due("Terms 1: the 47th", x.row(99, 0, 99, 0), 46);
        Check.due("Terms 1: two are too many at 47", x.deaf(2), VoiceHeaps.FULL);
        Check.due("Terms 1: the 48th", x.row(99, 99, 0, 0), 47);
        Check.due("Terms 1: no 49th", x.row(0, 0, 0, 0), VoiceHeaps.FULL);
        Check.due("Terms 1: no 49th that is deaf", x.deaf(1), VoiceHeaps.FULL);
        Check.due("Terms 1: 48 it is", x.count(0), 48);
        Check.due("Terms 1: the 48th counts", x.of(47), x.pieces(0) - 1);
        int last = x.pieces(0) - 1;
        int[] numbers = {99, 99, 0, 0};
        for (int i = 0; i < 4; i++) {
            Check.due("Terms 1: number " + i, x.piece(last, 3 + i), numbers[i]);
        }
    }

    private static String blanks(int n) {
        return " ".repeat(n);
    }

    /** "RULES are a text (200 bytes at most)": a text of just 200 is read to its last byte. */
    private static void textOf200() {
        String item = "price 7;";
        Check.due("Terms 1: an ITEM at the end of 200", Check.rulesOf(blanks(192) + item), 1);
        Check.due("Terms 1: an ITEM ahead of 192 blanks", Check.rulesOf(item + blanks(192)), 1);
        Check.due("Terms 1: a fault at the last of 200", Check.rulesOf(item + blanks(191) + "#"), -209);
        Check.due("Terms 1: 200 end too early", Check.rulesOf(blanks(193) + "price 7"), -210);
        Check.due("Terms 1: a number of 194 signs", Check.rulesOf("price " + "1".repeat(194)), -16);
        Check.due("Terms 1: a word of 200 signs", Check.rulesOf("p".repeat(200)), -10);
        VoiceHeaps x = Check.ruled(blanks(180) + "price 998; turn 41; ");
        Check.due("Terms 1: the first rule at the end of 200", x.rule(0), 998);
        Check.due("Terms 1: the second rule at the end of 200", x.rule(4), 41);
        Check.type(x, blanks(200));
        Check.due("Terms 1: behind RULES there is room for 200", x.count(5), 200);
    }

    /** "of a byte that begins none": 32 alone is a blank; no other byte can stand first. */
    private static void everyByteAlone() {
        for (int b = 0; b < 256; b++) {
            VoiceHeaps x = new VoiceHeaps();
            Check.due("Terms 1: type", x.type(b, 1), 1);
            Check.due("Terms 1: byte " + b + " alone", x.rules(), b == 32 ? 0 : -10);
        }
    }

    private static void everyByteBetween() {
        for (int b = 0; b < 256; b++) {
            VoiceHeaps x = new VoiceHeaps();
            Check.type(x, "like 5; price" + (char) b + "7;");
            boolean isLetter = b >= 'a' && b <= 'z' || b >= 'A' && b <= 'Z';
            boolean isFine = b == 32 || b >= '1' && b <= '9';
            Check.due("Terms 1: byte " + b + " behind a word", x.rules(), isFine ? 2 : isLetter ? -18 : -23);
            VoiceHeaps y = new VoiceHeaps();
            Check.type(y, "near 7" + (char) b + ";");
            isFine = b == 32 || b >= '0' && b <= '9';
            Check.due("Terms 1: byte " + b + " behind a number", y.rules(), isFine ? 1 : b == ';' ? -17 : -16);
            VoiceHeaps z = new VoiceHeaps();
            Check.type(z, "near 7;" + (char) b);
            Check.due("Terms 1: byte " + b + " behind all", z.rules(), b == 32 ? 1 : -17);
        }
    }

    /** "blanks (32) ahead of, between and behind TOKENS as may be (none needed where TOKENS end without)". */
    private static void blanksAnywhere() {
        for (int ahead = 0; ahead < 3; ahead++) {
            for (int between = 0; between < 3; between++) {
                for (int behind = 0; behind < 3; behind++) {
                    String text = blanks(ahead) + "turn" + blanks(between) + "12" + blanks(behind) + ";"
                            + blanks(ahead) + "twice" + blanks(behind) + "0" + blanks(between) + ";" + blanks(behind);
                    VoiceHeaps x = new VoiceHeaps();
                    Check.type(x, text);
                    Check.due("Terms 1: ITEMS of '" + text + "'", x.rules(), 2);
                    Check.due("Terms 1: turn of '" + text + "'", x.rule(4), 12);
                    Check.due("Terms 1: twice of '" + text + "'", x.rule(5), 0);
                }
            }
        }
    }

    /** "the place of the first byte of the first TOKEN that can't stand there", for each of the three places. */
    private static void faultsInEachPlace() {
        String[][] wrong = {
            {"5", "0", ";", "05", "00", "10000", "x", "pric", "pricee", "Hush", "#", "like"},
            {"hush", "like", ";", "x", "#", "05", "00", "007", "1000", "9999", "10000", "65536", "4294967303"},
            {"5", "0", "hush", "like", "price", "x", "#", "05", "10000"},
        };
        String[] ahead = {"like 5;", "like 5;price", "like 5;price 7"};
        String[] behind = {"", " ", " ;", " 5;", " #", " hush 400;", " near 4;"};
        for (int due = 0; due < 3; due++) {
            for (String token : wrong[due]) {
                for (int gap = 1; gap < 4; gap++) {
                    for (String rest : behind) {
                        String text = ahead[due] + blanks(gap) + token + rest;
                        Check.due("Terms 1: FAULT of '" + text + "'", Check.rulesOf(text), -10 - ahead[due].length() - gap);
                    }
                }
            }
        }
        Check.due("Terms 1: the first of two faults", Check.rulesOf("price ; #"), -16);
        Check.due("Terms 1: a fault ahead of the end", Check.rulesOf("price 1000"), -16);
    }

    /** "the text's length, if it ends too early". */
    private static void endsTooEarly() {
        for (int k = 0; k < 6; k++) {
            for (String number : new String[] {"", " 0", " 1", "399"}) {
                for (int gap = 0; gap < 4; gap++) {
                    String text = WORDS[k] + number + blanks(gap);
                    Check.due("Terms 1: '" + text + "' ends", Check.rulesOf(text), -10 - text.length());
                    Check.due("Terms 1: ';' behind '" + text + "'", Check.rulesOf(text + ";"),
                            number.isEmpty() ? -10 - text.length() : 1);
                }
            }
        }
    }

    /** "each once at most; those that are not told are as at first: 20, 10, 40, 0, 0, 10." */
    private static void eachOnce() {
        int[] first = {20, 10, 40, 0, 0, 10};
        for (int one = 0; one < 6; one++) {
            for (int other = 0; other < 6; other++) {
                VoiceHeaps x = Check.ruled("price 1;hush 2;like 3;near 4;turn 5;twice 6;");
                String text = WORDS[one] + " 77; " + WORDS[other] + " 88;";
                Check.type(x, text);
                Check.due("Terms 1: '" + text + "'", x.rules(), one == other ? -10 - WORDS[one].length() - 5 : 2);
                for (int k = 0; k < 6; k++) {
                    int want = one == other ? k + 1 : k == one ? 77 : k == other ? 88 : first[k];
                    Check.due("Terms 1: rule(" + k + ") behind '" + text + "'", x.rule(k), want);
                }
            }
        }
    }

    /** "HEARD are ROWS .. whose numbers together are H at least." */
    private static void heardAtH() {
        VoiceHeaps x = Check.ruled("hush 100;");
        x.row(25, 25, 25, 24);
        x.row(25, 25, 25, 25);
        x.row(0, 99, 0, 0);
        x.row(1, 0, 0, 99);
        Check.due("Terms 1: one less than H", x.of(0), VoiceHeaps.NONE);
        Check.due("Terms 1: just H", x.of(1), 0);
        Check.due("Terms 1: a number of 99 alone", x.of(2), VoiceHeaps.NONE);
        Check.due("Terms 1: 1 and 99", x.of(3), 1);
        Check.due("Terms 1: two are heard", x.pieces(3), 2);
        x.out(3, 3, 1);
        Check.due("Terms 1: not those that are OUT", x.of(3), VoiceHeaps.NONE);
        VoiceHeaps first = new VoiceHeaps();
        first.row(0, 0, 0, 9);
        first.row(0, 0, 10, 0);
        Check.due("Terms 1: 9 at first", first.of(0), VoiceHeaps.NONE);
        Check.due("Terms 1: 10 at first", first.of(1), 0);
        VoiceHeaps none = Check.ruled("hush 0;");
        none.row(0, 0, 0, 0);
        none.deaf(1);
        none.row(0, 0, 0, 0);
        none.out(2, 2, 1);
        Check.due("Terms 1: at H = 0 a row of nothing", none.of(0), 0);
        Check.due("Terms 1: at H = 0 a deaf one is not", none.of(1), VoiceHeaps.NONE);
        Check.due("Terms 1: at H = 0 one that is OUT is not", none.of(2), VoiceHeaps.NONE);
    }

    private static void heardAtTheGreatestH() {
        for (int hush : new int[] {395, 396, 397, 399}) {
            VoiceHeaps x = Check.ruled("hush " + hush + ";");
            x.row(99, 99, 99, 99);
            x.row(99, 98, 99, 99);
            Check.due("Terms 1: H = " + hush, x.pieces(3), hush == 395 ? 2 : hush == 396 ? 1 : 0);
        }
    }

    /** "(ROWS that are OUT, DEAF or hushed are between)": d deaf, h hushed, o OUT, + heard. */
    private static void betweenStretches() {
        String[] runs = {"", "+", "d", "h", "o", "++", "d+", "+d", "h+", "+h", "o+", "+o", "+d+", "+h+", "+o+", "+dho+",
            "dho", "d+h++o+++d", "+d+d+d+d+", "++++++++", "ooo+++ddd++hhh+"};
        int[] stretches = {0, 1, 0, 0, 0, 1, 1, 1, 1, 1, 1, 1, 2, 2, 2, 2, 0, 3, 5, 1, 3};
        for (int k = 0; k < runs.length; k++) {
            VoiceHeaps x = new VoiceHeaps();
            for (int r = 0; r < runs[k].length(); r++) {
                char kind = runs[k].charAt(r);
                int made = kind == 'd' ? x.deaf(1) - 1 : kind == 'h' ? x.row(3, 3, 3, 0) : x.row(50, 50, 50, 50);
                if (kind == 'o') {
                    x.out(made, made, 1);
                }
            }
            Check.due("Terms 1: STRETCHES of " + runs[k], x.pieces(1), stretches[k]);
            Check.due("Terms 1: a PIECE each of " + runs[k], x.pieces(0), stretches[k]);
            Check.due("Terms 1: HEARD of " + runs[k], x.pieces(3), runs[k].replaceAll("[^+]", "").length());
            for (int r = 0; r < runs[k].length(); r++) {
                boolean isHeard = runs[k].charAt(r) == '+';
                Check.holds("Terms 1: of(" + r + ") of " + runs[k], (x.of(r) != VoiceHeaps.NONE) == isHeard);
            }
        }
    }

    /** "of n in order the ((n + 1) by 2)-th, rounded down", for each n that there may be; SPREAD with it. */
    private static void lowerMiddles() {
        for (int n = 1; n <= 48; n++) {
            VoiceHeaps x = Check.ruled("hush 0; price 999;");
            for (int r = 0; r < n; r++) {
                // 0 .. n - 1 from both ends: no cut is worth its price.
                x.row(r % 2 == 0 ? r / 2 : n - 1 - r / 2, 7, 7, 7);
            }
            Check.due("Terms 2: MIDDLE of " + n, x.piece(0, 3), (n + 1) / 2 - 1);
            Check.due("Terms 2: SPREAD of " + n, x.piece(0, 2), n * n / 4);
            Check.due("Terms 2: the HEAP's MIDDLE of " + n, x.middle(0, 0), (n + 1) / 2 - 1);
        }
    }

    /** "so that all SPREADS and P for each PIECE are least together": just at, below and above a price. */
    private static void cutsAtThePrice() {
        for (int price : new int[] {0, 1, 39, 40, 41, 999}) {
            VoiceHeaps x = Check.ruled("price " + price + ";");
            Check.rows(x, 4, 20, 20, 20, 20);
            Check.rows(x, 4, 22, 22, 23, 23);
            // In one PIECE the later four are off by 10 each.
            int pieces = price < 40 ? 2 : 1;
            Check.due("Terms 2: PIECES at P = " + price, x.pieces(0), pieces);
            Check.due("Terms 2: together at P = " + price, x.pieces(2), pieces * price + (pieces == 1 ? 40 : 0));
        }
        VoiceHeaps far = Check.ruled("price 999; hush 0;");
        Check.rows(far, 2, 0, 0, 0, 0);
        Check.rows(far, 2, 99, 99, 99, 99);
        Check.due("Terms 2: 792 is less than a price of 999", far.pieces(2), 792 + 999);
        Check.rows(far, 2, 99, 99, 99, 99);
        Check.due("Terms 2: with four of 99, too", far.pieces(2), 792 + 999);
        Check.rows(far, 1, 0, 0, 0, 0);
        Check.due("Terms 2: three of 0 and four of 99 in one", far.pieces(2), 3 * 396 + 999);
        VoiceHeaps apart = Check.ruled("price 999; hush 0;");
        Check.rows(apart, 3, 0, 0, 0, 0);
        Check.rows(apart, 2, 99, 99, 99, 99);
        Check.due("Terms 2: two of 99 are not cut off", apart.pieces(2), 2 * 396 + 999);
        Check.rows(apart, 1, 99, 99, 99, 99);
        Check.due("Terms 2: three of 99 are", apart.pieces(2), 2 * 999);
    }

    /** "of several the one whose first PIECE has most ROWS, then the second, and so on". */
    private static void ofSeveralCuts() {
        // Side by side all differ by the price: each cut into twos and ones costs the same; threes too.
        int[][] want = {{1}, {2}, {3}, {3, 1}, {3, 2}, {3, 3}, {3, 3, 1}, {3, 3, 2}, {3, 3, 3}};
        for (int n = 1; n <= 9; n++) {
            VoiceHeaps x = Check.ruled("price 10;");
            for (int r = 0; r < n; r++) {
                x.row(10 * (r + 1), 0, 0, 0);
            }
            int[] sizes = new int[x.pieces(0)];
            for (int p = 0; p < sizes.length; p++) {
                sizes[p] = x.piece(p, 1);
            }
            Check.holds("Terms 2: sizes of " + n + ": " + Arrays.toString(sizes), Arrays.equals(sizes, want[n - 1]));
            Check.due("Terms 2: cost of " + n, x.pieces(2), 10 * n);
        }
        // Each STRETCH by itself.
        VoiceHeaps x = Check.ruled("price 10;");
        for (int r = 0; r < 4; r++) {
            x.row(10 * (r + 1), 0, 0, 0);
        }
        x.deaf(1);
        for (int r = 0; r < 4; r++) {
            x.row(10 * (r + 1), 0, 0, 0);
        }
        int[] sizes = {3, 1, 3, 1};
        for (int p = 0; p < 4; p++) {
            Check.due("Terms 2: size " + p + " in two STRETCHES", x.piece(p, 1), sizes[p]);
        }
    }

    /** "TOUCH: two PIECES side by side in one STRETCH." */
    private static void touchInOneStretch() {
        for (int between = 0; between < 4; between++) {
            VoiceHeaps x = Check.ruled("price 5; turn 7;");
            Check.rows(x, 3, 20, 20, 0, 0);
            if (between == 1) {
                x.deaf(1);
            } else if (between == 2) {
                x.row(0, 0, 0, 9);
            } else if (between == 3) {
                x.row(90, 90, 90, 90);
                x.out(3, 3, 1);
            }
            Check.rows(x, 3, 30, 20, 0, 0);
            Check.due("Terms 2: two PIECES, between them " + between, x.pieces(0), 2);
            Check.due("Terms 2: a turn's price, between them " + between, x.worth(0), between == 0 ? 83 : 90);
            Check.due("Terms 2: JOINED, between them " + between, x.worth(1), between == 0 ? 83 : 90);
        }
    }

    private static void touchSideBySideAlone() {
        // LIKE of the outer two is 120, of each with the inner one 60; only the inner one TOUCHES.
        int[][] turnBestJoinedHeaps = {{50, 140, 140, 1, 1}, {59, 122, 122, 1, 1}, {60, 120, 120, 1, 2}, {61, 120, 120, 2, 2}};
        for (int[] row : turnBestJoinedHeaps) {
            VoiceHeaps x = Check.ruled("price 5; turn " + row[0] + ";");
            Check.rows(x, 3, 20, 20, 0, 0);
            Check.rows(x, 3, 40, 20, 0, 0);
            Check.rows(x, 3, 20, 20, 0, 0);
            Check.due("Terms 2: BEST at T = " + row[0], x.worth(0), row[1]);
            Check.due("Terms 2: JOINED at T = " + row[0], x.worth(1), row[2]);
            Check.due("Terms 2: HEAPS of BEST at T = " + row[0], x.near(3), row[3]);
            Check.due("Terms 2: HEAPS of JOINED at T = " + row[0], x.near(4), row[4]);
        }
    }
}

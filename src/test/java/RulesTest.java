/** Promises 1 to 5: a new object, type, clear, rules, rule. */
public final class RulesTest {
    private static final int[] AT_FIRST = {20, 10, 40, 0, 0, 10};
    private static final String[] WORDS = {"price", "hush", "like", "near", "turn", "twice"};
    private static final int[] MOST = {999, 399, 399, 9999, 999, 399};

    public static void main(String[] args) {
        newObject();
        typing();
        clearing();
        everyRule();
        blanks();
        faults();
        refusedChangesNothing();
        Check.end();
    }

    private static void newObject() {
        VoiceHeaps x = new VoiceHeaps();
        for (int what = 0; what <= 5; what++) {
            Check.due("1: count(" + what + ")", x.count(what), 0);
            Check.due("1: rule(" + what + ")", x.rule(what), AT_FIRST[what]);
        }
        Check.due("1: trace()", x.trace(), 0);
        Check.due("1: otherwise()", x.otherwise(), VoiceHeaps.STATE);
        VoiceHeaps y = new VoiceHeaps();
        x.row(1, 2, 3, 4);
        Check.due("1: another object", y.count(0), 0);
    }

    private static void typing() {
        VoiceHeaps x = new VoiceHeaps();
        Check.due("2: n = 0", x.type(5, 0), VoiceHeaps.BAD);
        Check.due("2: n = 9", x.type(5, 9), VoiceHeaps.BAD);
        Check.due("2: n = -1", x.type(5, -1), VoiceHeaps.BAD);
        Check.due("2: n least", x.type(5, Integer.MIN_VALUE), VoiceHeaps.BAD);
        Check.due("2: n most", x.type(5, Integer.MAX_VALUE), VoiceHeaps.BAD);
        Check.due("2: nothing was typed", x.count(5), 0);
        // The lowest bytes, the highest of them first: "turn 7;" under a byte that does not count.
        Check.due("2: seven bytes", x.type(0x217475726E20373BL, 7), 7);
        Check.due("2: their rules", x.rules(), 1);
        Check.due("2: their rule", x.rule(4), 7);
        for (int i = 1; i <= 24; i++) {
            Check.due("2: eight more", x.type(-1L, 8), 8 * i);
        }
        Check.due("2: one more", x.type(32, 1), 193);
        Check.due("2: beyond 200", x.type(32, 8), VoiceHeaps.FULL);
        Check.due("2: beyond 200, BAD first", x.type(32, 9), VoiceHeaps.BAD);
        Check.due("2: nothing of it came", x.count(5), 193);
        Check.due("2: up to 200", x.type(0x20202020202020L, 7), 200);
        Check.due("2: 201", x.type(32, 1), VoiceHeaps.FULL);
        Check.due("2: bytes of 255 begin no token", x.rules(), -10);
        x.clear();
        for (int i = 1; i <= 25; i++) {
            Check.due("2: blanks", x.type(0x2020202020202020L, 8), 8 * i);
        }
        Check.due("2: 200 blanks have no items", x.rules(), 0);
    }

    private static void clearing() {
        VoiceHeaps x = new VoiceHeaps();
        Check.due("3: empty", x.clear(), 0);
        Check.type(x, "like 5;");
        Check.due("3: had", x.clear(), 7);
        Check.due("3: is empty", x.count(5), 0);
        Check.due("3: again", x.clear(), 0);
        Check.due("3: no items left", x.rules(), 0);
        Check.due("3: no rule left", x.rule(2), 40);
        Check.type(x, "like 5;");
        x.hush();
        Check.due("3: hush leaves the text", x.clear(), 7);
    }

    private static void everyRule() {
        for (int k = 0; k < 6; k++) {
            for (int value : new int[] {0, 1, 9, MOST[k]}) {
                VoiceHeaps x = Check.ruled(WORDS[k] + " " + value + ";");
                for (int other = 0; other < 6; other++) {
                    Check.due("5: " + WORDS[k] + " " + value + ": rule(" + other + ")", x.rule(other),
                            other == k ? value : AT_FIRST[other]);
                }
                Check.due("4: the text is empty then", x.count(5), 0);
                Check.due("4: what is not told is as at first", x.rules(), 0);
                Check.due("4: " + WORDS[k] + " as at first", x.rule(k), AT_FIRST[k]);
            }
            int place = WORDS[k].length() + 1;
            Check.due("4: " + WORDS[k] + " beyond", Check.rulesOf(WORDS[k] + " " + (MOST[k] + 1) + ";"), -10 - place);
            Check.due("4: " + WORDS[k] + " twice",
                    Check.rulesOf(WORDS[k] + " 1;" + WORDS[k] + " 2;"), -10 - WORDS[k].length() - 3);
        }
        VoiceHeaps all = Check.ruled("twice 1;turn 2;near 3;like 4;hush 5;price 6;");
        for (int k = 0; k < 6; k++) {
            Check.due("5: all in another order", all.rule(k), 6 - k);
        }
        Check.due("5: rule(6)", all.rule(6), VoiceHeaps.BAD);
        Check.due("5: rule(-1)", all.rule(-1), VoiceHeaps.BAD);
        Check.due("5: rule(most)", all.rule(Integer.MAX_VALUE), VoiceHeaps.BAD);
        Check.due("5: rule(least)", all.rule(Integer.MIN_VALUE), VoiceHeaps.BAD);
        Check.due("4: six items", Check.rulesOf("twice 1;turn 2;near 3;like 4;hush 5;price 6;"), 6);
        Check.due("4: a seventh", Check.rulesOf("twice 1;turn 2;near 3;like 4;hush 5;price 6; like"), -55);
        Check.due("4: six and blanks", Check.rulesOf("twice 1;turn 2;near 3;like 4;hush 5;price 6;   "), 6);
    }

    private static void blanks() {
        Check.due("4: no blanks", Check.rulesOf("price7;hush8;"), 2);
        Check.due("4: many blanks", Check.rulesOf("   price   7   ;   hush   8   ;   "), 2);
        Check.due("4: blanks alone", Check.rulesOf("   "), 0);
        Check.due("4: nothing", Check.rulesOf(""), 0);
        Check.due("4: a tab is no blank", Check.rulesOf("price\t7;"), -15);
        Check.due("4: a line's end is no blank", Check.rulesOf("price 7;\n"), -18);
        Check.due("4: a word is not cut", Check.rulesOf("pri ce 7;"), -10);
        Check.due("4: a number is not cut", Check.rulesOf("price 1 2;"), -18);
    }

    private static void faults() {
        Check.due("4: a number where a word is due", Check.rulesOf("  5;"), -12);
        Check.due("4: ; where a word is due", Check.rulesOf(" ;"), -11);
        Check.due("4: ; where a number is due", Check.rulesOf("price ;"), -16);
        Check.due("4: a word where a number is due", Check.rulesOf("price hush 5;"), -16);
        Check.due("4: a word where ; is due", Check.rulesOf("price 5 hush"), -18);
        Check.due("4: two ;", Check.rulesOf("price 5;;"), -18);
        Check.due("4: no such word", Check.rulesOf("prices 5;"), -10);
        Check.due("4: half a word", Check.rulesOf("price 5; hus"), -19);
        Check.due("4: great letters", Check.rulesOf("PRICE 5;"), -10);
        for (char letter : new char[] {'a', 'z', 'A', 'Z'}) {
            Check.due("4: a letter behind: " + letter, Check.rulesOf("price" + letter + " 5;"), -10);
            Check.due("4: a letter ahead: " + letter, Check.rulesOf(letter + "rice 5;"), -10);
        }
        for (char sign : new char[] {'`', '{', '@', '[', '/', ':', '\0', '\u007f', '\u00ff'}) {
            Check.due("4: a sign behind a word: " + (int) sign, Check.rulesOf("price" + sign + " 5;"), -15);
            Check.due("4: a sign behind a number: " + (int) sign, Check.rulesOf("price 5" + sign + ";"), -17);
        }
        Check.due("4: a byte that begins none", Check.rulesOf("price 5; #"), -19);
        Check.due("4: a byte within a word", Check.rulesOf("pri#ce 5;"), -10);
        Check.due("4: a byte behind a word", Check.rulesOf("price# 5;"), -15);
        Check.due("4: a byte of 233", Check.rulesOf("price \u00e9"), -16);
        Check.due("4: 9 and 0", Check.rulesOf("near 9090;"), 1);
        Check.due("4: below 0", Check.rulesOf("price -5;"), -16);
        Check.due("4: a 0 ahead", Check.rulesOf("price 05;"), -16);
        Check.due("4: 00", Check.rulesOf("price 00;"), -16);
        Check.due("4: 10000", Check.rulesOf("near 10000;"), -15);
        Check.due("4: a number that no int holds", Check.rulesOf("near 4294967297;"), -15);
        Check.due("4: a number that no long holds", Check.rulesOf("near 18446744073709551617;"), -15);
        Check.due("4: beyond at the end", Check.rulesOf("price 1000"), -16);
        Check.due("4: ends behind a word", Check.rulesOf("price"), -15);
        Check.due("4: ends behind a word and blanks", Check.rulesOf("price  "), -17);
        Check.due("4: ends behind a number", Check.rulesOf("price 5"), -17);
        Check.due("4: ends behind a number and blanks", Check.rulesOf("price 5  "), -19);
        Check.due("4: the first fault", Check.rulesOf("price 5; hush 400; foo"), -24);
    }

    private static void refusedChangesNothing() {
        VoiceHeaps x = Check.ruled("price 5; turn 6;");
        Check.type(x, "hush 9; price 7; hush 8;");
        Check.due("4: refused", x.rules(), -27);
        Check.due("4: the text stays", x.count(5), 24);
        Check.due("4: price stays", x.rule(0), 5);
        Check.due("4: hush stays", x.rule(1), 10);
        Check.due("4: turn stays", x.rule(4), 6);
        Check.due("4: refused again", x.rules(), -27);
        // An empty text is RULES, too, and holds at once.
        VoiceHeaps y = Check.ruled("hush 0;");
        y.row(0, 0, 0, 0);
        Check.due("4: without hush", y.pieces(0), 1);
        Check.due("4: no items", y.rules(), 0);
        Check.due("4: hush is as at first, and holds", y.pieces(0), 0);
    }
}

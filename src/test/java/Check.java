import java.nio.charset.StandardCharsets;

/** What the tests share: answers compared, texts typed. */
final class Check {
    private static int wrong = 0;
    private static int asked = 0;

    private Check() { }

    static void due(String call, long got, long want) {
        asked++;
        if (got != want) {
            wrong++;
            System.out.println(call + " answered " + got + ", due is " + want);
        }
    }

    static void holds(String what, boolean does) {
        due(what, does ? 1 : 0, 1);
    }

    static void type(VoiceHeaps x, String text) {
        byte[] bytes = text.getBytes(StandardCharsets.ISO_8859_1);
        for (int at = 0; at < bytes.length; at += 8) {
            int n = Math.min(8, bytes.length - at);
            x.type(packed(bytes, at, n), n);
        }
    }

    static long packed(byte[] bytes, int at, int n) {
        long v = 0;
        for (int i = 0; i < n; i++) {
            v = v << 8 | bytes[at + i] & 255;
        }
        return v;
    }

    /** A new object with these RULES. */
    static VoiceHeaps ruled(String rules) {
        VoiceHeaps x = new VoiceHeaps();
        type(x, rules);
        if (x.rules() < 0) {
            wrong++;
            System.out.println("the test's rules are refused: " + rules);
        }
        return x;
    }

    static int rulesOf(String text) {
        VoiceHeaps x = new VoiceHeaps();
        type(x, text);
        return x.rules();
    }

    /** n ROWS with the same numbers. */
    static void rows(VoiceHeaps x, int n, int a, int b, int c, int d) {
        for (int i = 0; i < n; i++) {
            x.row(a, b, c, d);
        }
    }

    static void end() {
        System.out.println(wrong == 0 ? asked + " answers are as due" : wrong + " answers are not as due");
        if (wrong != 0) {
            System.exit(1);
        }
    }
}

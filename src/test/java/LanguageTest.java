import java.io.IOException;
import java.nio.file.Files;
import java.nio.file.Path;
import java.util.List;
import java.util.regex.Matcher;
import java.util.regex.Pattern;

/** What of ../shared/LANGUAGE.md can be seen in the words of the source; run from the project's folder. */
public final class LanguageTest {
    private static final Path SOURCE = Path.of("src/main/java/VoiceHeaps.java");
    private static final String[] FORBIDDEN = {
        "\\b(throw|throws|try|catch|finally|synchronized|assert|volatile|transient|native|protected|package)\\b",
        "->", "::", "@", "\\bObject\\b", "\\bSystem\\.(?!arraycopy)", "\\b(Random|Thread|Class|Exception|Error)\\b",
        "\\b\\w+Exact\\b", "\\b(hashCode|toString)\\b", "\\bnew\\s+\\w+\\s*\\([^)]*\\)\\s*\\{", "\\bstatic\\s*\\{",
        "\\b(double|float)\\b", "\\[\\]\\[\\]\\[\\]",
    };
    private static final List<String> LIBRARY =
            List.of("Math.abs", "Math.min", "Math.max", "Integer.bitCount", "Arrays.fill");
    private static final int LONGEST_METHOD = 60;

    public static void main(String[] args) throws IOException {
        String source = Files.readString(SOURCE);
        String code = source.replaceAll("(?s)/\\*.*?\\*/", "").replaceAll("//[^\n]*", "");
        for (String forbidden : FORBIDDEN) {
            Matcher m = Pattern.compile(forbidden).matcher(code);
            Check.holds("no " + forbidden + " in the source", !m.find());
        }
        Check.holds("signs 0 to 127 alone", source.chars().allMatch(c -> c < 128));
        Matcher imports = Pattern.compile("import\\s+([\\w.]+);").matcher(code);
        while (imports.find()) {
            Check.holds("import of " + imports.group(1), imports.group(1).equals("java.util.Arrays"));
        }
        Matcher library = Pattern.compile("\\b(Math|Integer|Long|Arrays|System|String|List)\\.(\\w+)").matcher(code);
        while (library.find()) {
            Check.holds(library.group() + " is in the library", LIBRARY.contains(library.group()));
        }
        // Static fields are final.
        Matcher statics = Pattern.compile("(?m)^\\s*(private |public )?static (?!final)[^(\\n]*[;=]").matcher(code);
        Check.holds("static fields are final", !statics.find());
        methods(List.of(code.split("\n", -1)));
        Check.end();
    }

    private static void methods(List<String> lines) {
        Pattern head = Pattern.compile("^(\\s+)[\\w\\[\\] ]+\\(([^()]*)\\) \\{$");
        for (int at = 0; at < lines.size(); at++) {
            Matcher m = head.matcher(lines.get(at));
            if (m.matches() && !lines.get(at).matches("\\s+(if|for|while|switch) .*")) {
                String name = lines.get(at).trim();
                int end = lines.subList(at, lines.size()).indexOf(m.group(1) + "}");
                Check.holds(name + " has an end", end > 0);
                Check.holds(name + " is short", end <= LONGEST_METHOD);
                Check.holds(name + " takes seven at most", m.group(2).split(",").length <= 7);
            }
        }
    }
}

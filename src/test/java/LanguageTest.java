import java.nio.file.Files;
import java.nio.file.Path;
import java.util.regex.Matcher;
import java.util.regex.Pattern;

/** Rules of ../shared/LANGUAGE.md that can be seen in the program's text. */
public final class LanguageTest {
    private static final Path PROGRAM = Path.of("src/main/java/MarkedChains.java");
    private static final String[] FORBIDDEN = {
        "\\bthrow\\b", "\\bthrows\\b", "\\btry\\b", "\\bcatch\\b", "\\bsynchronized\\b", "\\bassert\\b",
        "->", "::", "Exact\\b", "\\bpackage\\b", "\\bprotected\\b", "\\bhashCode\\b", "\\btoString\\b",
        "\\bgetClass\\b", "\\bvar\\b", "\\bThread\\b", "\\bstatic\\s*\\{", "\\bSystem\\.(?!arraycopy\\b)",
        "\\bArrays\\.(?!fill\\b|copyOf\\b|copyOfRange\\b)", "\\bnew\\s+\\w+\\s*\\([^)]*\\)\\s*\\{",
        "\\[\\]\\s*\\[\\]\\s*\\[\\]", "\\bstatic\\s+(?!final\\b)\\w+(\\[\\])?\\s+\\w+\\s*[=;]"
    };

    public static void main(String[] args) throws Exception {
        Check check = new Check("LanguageTest");
        String source = Files.readString(PROGRAM);
        check.holds("all signs are below 128", source.chars().allMatch(c -> c < 128));
        String code = withoutCommentsAndTexts(source);
        for (String pattern : FORBIDDEN) {
            Matcher found = Pattern.compile(pattern).matcher(code);
            check.holds("nothing like " + pattern, !found.find());
        }
        Matcher imports = Pattern.compile("\\bimport\\s+([^;]+);").matcher(code);
        while (imports.find()) {
            check.holds("import " + imports.group(1), imports.group(1).equals("java.util.Arrays"));
        }
        looksAtMethods(check, code);
        looksAtNewObjects(check, code);
        check.finish();
    }

    /** Objects are made for fields and in the constructor alone, so that no call fills the room. */
    private static void looksAtNewObjects(Check check, String code) {
        int made = 0;
        for (String line : code.split("\n")) {
            if (line.matches(".*\\bnew\\b.*")) {
                made++;
                boolean field = line.matches(" +(private )?final [\\w\\[\\]]+ \\w+ = new .*");
                boolean inConstructor = line.matches(" +(past|shelves)\\[i\\] = new Play\\(\\);");
                check.holds("made in a constructor:" + line, field || inConstructor);
            }
        }
        check.holds("objects were found", made > 10);
    }

    private static void looksAtMethods(Check check, String code) {
        Matcher heads = Pattern.compile("(?m)^ +(?:public |private |static )*[\\w\\[\\]]+ (\\w+)\\(([^)]*)\\) \\{").matcher(code);
        int methods = 0;
        while (heads.find()) {
            methods++;
            String name = heads.group(1);
            int parameters = heads.group(2).isEmpty() ? 0 : heads.group(2).split(",").length;
            check.holds(name + " takes at most seven", parameters <= 7);
            check.holds(name + " is short", linesOf(code, heads.end()) <= 60);
        }
        check.holds("methods were found", methods > 80);
    }

    private static int linesOf(String code, int from) {
        int depth = 1;
        int lines = 1;
        for (int i = from; i < code.length() && depth > 0; i++) {
            char c = code.charAt(i);
            depth += c == '{' ? 1 : c == '}' ? -1 : 0;
            lines += c == '\n' ? 1 : 0;
        }
        return lines;
    }

    private static String withoutCommentsAndTexts(String source) {
        String parts = "(?s)/\\*.*?\\*/|//[^\\n]*|\"(?:[^\"\\\\\\n]|\\\\.)*\"|'(?:[^'\\\\]|\\\\.)'";
        return Pattern.compile(parts).matcher(source).replaceAll("_");
    }
}

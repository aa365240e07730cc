import java.nio.file.Files;
import java.nio.file.Path;
import java.util.regex.Matcher;
import java.util.regex.Pattern;

/** The rules of LANGUAGE.md that can be seen from the source; run from the project's folder. */
public final class LanguageTest {
    private static final int LONGEST_METHOD = 60;
    private static final String[] BARRED = {
        "\\bthrow\\b", "\\bthrows\\b", "\\btry\\b", "\\bcatch\\b", "\\bsynchronized\\b", "\\bassert\\b",
        "\\bpackage\\b", "\\bprotected\\b", "->", "::", "\\bstatic\\s*\\{", "\\bvar\\b", "\\bThread\\b",
        "\\bRandom\\b", "\\brandom\\b", "\\bcurrentTimeMillis\\b", "\\bnanoTime\\b", "Exact\\b", "\\bfinalize\\b",
        "\\bMap\\b", "\\bSet\\b", "\\bOptional\\b", "\\bstream\\b", "String\\.format", "\\bhashCode\\b", "\\btoString\\b"
    };

    public static void main(String[] args) throws Exception {
        Check check = new Check("LanguageTest");
        String source = Files.readString(Path.of("src/main/java/PromptHoles.java"));
        for (int i = 0; i < source.length(); i++) {
            if (source.charAt(i) > 127) {
                check.holds("a sign above 127 in place " + i, false);
            }
        }
        String code = source.replaceAll("(?s)/\\*.*?\\*/", "").replaceAll("//[^\n]*", "").replaceAll("'.'", "' '");
        for (String barred : BARRED) {
            Matcher m = Pattern.compile(barred).matcher(code);
            check.holds("none of " + barred, !m.find());
        }
        Matcher imports = Pattern.compile("import ([^;]+);").matcher(code);
        while (imports.find()) {
            check.holds("import " + imports.group(1), imports.group(1).matches("java\\.util\\.(Arrays|ArrayList|List|Iterator)"));
        }
        check.holds("at most twelve classes", code.split("\\bclass\\b").length - 1 <= 12);
        Matcher statics = Pattern.compile("\\bstatic\\s+(?!final\\b)[^;({]*[;=]").matcher(code);
        check.holds("static fields are final", !statics.find());
        methodsAreShort(check, code);
        check.end();
    }

    private static void methodsAreShort(Check check, String code) {
        String[] lines = code.split("\n");
        int begun = -1;
        String indent = "";
        for (int i = 0; i < lines.length; i++) {
            Matcher head = Pattern.compile("^( {4}| {8})(public |private |static |final )*[\\w\\[\\]]+( \\w+)?\\([^)]*\\) \\{$").matcher(lines[i]);
            if (head.find()) {
                begun = i;
                indent = head.group(1);
            } else if (begun >= 0 && lines[i].equals(indent + "}")) {
                check.holds("short: " + lines[begun].trim(), i - begun < LONGEST_METHOD);
                begun = -1;
            }
        }
    }
}

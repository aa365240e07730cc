import java.io.File;
import java.nio.file.Files;
import java.nio.file.Path;
import java.util.Arrays;
import java.util.regex.Matcher;
import java.util.regex.Pattern;

/** What README.md tells of the class is so; run from the project's folder. */
public final class ReadmeTest {
    private static final Check CHECK = new Check("ReadmeTest");
    private static final Pattern TYPED =
        Pattern.compile("for \\(char c : \"([^\"]*)\"\\.toCharArray\\(\\)\\) x\\.type\\(([01]), c\\);");
    private static final Pattern ASKED = Pattern.compile("x\\.(\\w+)\\(([-0-9, ]*)\\); +// (-?[0-9]+)\\b.*");

    private ReadmeTest() {
    }

    public static void main(String[] args) throws Exception {
        String page = Files.readString(Path.of("README.md"));
        exampleAnswersSo(page);
        CHECK.says("README.md names every call");
        for (String name : Theatre.NAMES) {
            CHECK.holds(name, Pattern.compile("`" + name + "\\([a-z, ]*\\)`").matcher(page).find());
        }
        CHECK.says("README.md names every test");
        String[] files = new File("src/test/java").list();
        for (String file : files == null ? new String[0] : files) {
            if (file.endsWith("Test.java")) {
                CHECK.holds(file, page.contains("`" + file.replace(".java", "") + "`"));
            }
        }
        CHECK.end();
    }

    private static void exampleAnswersSo(String page) {
        CHECK.says("README.md's example answers as it tells");
        Matcher block = Pattern.compile("(?s)```java\n(.*?)```").matcher(page);
        CHECK.holds("there is an example", block.find());
        String[] rows = block.group(1).split("\n");
        CHECK.same("it begins", rows[0], "PromptHoles x = new PromptHoles();");
        PromptHoles x = new PromptHoles();
        for (String row : Arrays.asList(rows).subList(1, rows.length)) {
            follow(x, row);
        }
    }

    private static void follow(PromptHoles x, String row) {
        Matcher typed = TYPED.matcher(row);
        Matcher asked = ASKED.matcher(row);
        if (typed.matches()) {
            Theatre.typeAll(x, Integer.parseInt(typed.group(2)), typed.group(1));
        } else if (asked.matches()) {
            int[] numbers = numbersIn(asked.group(2));
            long got = Theatre.ask(x, asked.group(1), numbers);
            CHECK.due(Theatre.told(asked.group(1), numbers), got, Long.parseLong(asked.group(3)));
        } else {
            CHECK.holds("a row that can be followed: " + row, false);
        }
    }

    private static int[] numbersIn(String told) {
        return told.isEmpty() ? new int[0] : Arrays.stream(told.split(", ")).mapToInt(Integer::parseInt).toArray();
    }
}

import java.nio.file.Files;
import java.nio.file.Path;
import java.util.regex.Matcher;
import java.util.regex.Pattern;

/** What can be seen of ../shared/LANGUAGE.md by the program's text alone. */
final class LanguageTest {
    private static final String[] BARRED = {
        "\\bthrow\\b", "\\bthrows\\b", "\\btry\\b", "\\bcatch\\b", "\\bsynchronized\\b", "\\bassert\\b", "\\bpackage\\b",
        "->", "::", "\\bObject\\b", "\\bSystem\\b", "\\bhashCode\\b", "\\btoString\\b", "\\bprotected\\b", "Exact\\b",
        "\\bstatic\\s*\\{", "\\[\\]\\["};

    public static void main(String[] args) throws Exception {
        Check check = new Check();
        String text = Files.readString(Path.of("src/main/java/EdgesFit.java"));
        String bare = text.replaceAll("(?s)/\\*.*?\\*/", "").replaceAll("//[^\n]*", "");
        for (String barred : BARRED) {
            check.due("how often it has " + barred, many(bare, barred), 0);
        }
        check.due("imports", many(bare, "\\bimport\\b"), 1);
        check.due("imports of Arrays", many(bare, "import java\\.util\\.Arrays;"), 1);
        check.due("calls of Arrays but fill", many(bare, "\\bArrays\\.(?!fill\\()"), 0);
        check.due("loops that are no for", many(bare, "\\b(while|do)\\b"), 0);
        check.due("signs above 127", text.chars().filter(sign -> sign > 127).count(), 0);
        check.due("methods of more than seven parameters", many(bare, "\\((?:\\w+ \\w+, ){7,}\\w+ \\w+\\) \\{"), 0);
        check.due("made outside of constructors and fields", madeInMethods(bare), 0);
        check.due("methods of more than sixty lines", longMethods(text), 0);
        check.end();
    }

    private static int many(String text, String pattern) {
        Matcher matcher = Pattern.compile(pattern).matcher(text);
        int many = 0;
        while (matcher.find()) {
            many++;
        }
        return many;
    }

    /** All calls of a run live in one room, so that no method but a constructor makes anything. */
    private static int madeInMethods(String bare) {
        int many = 0;
        boolean inMethod = false;
        for (String line : bare.split("\n")) {
            boolean head = line.matches("\\s+(public |private |static )*(int|long|boolean|void|[A-Z]\\w*) \\w+\\(.*\\) \\{");
            boolean constructor = line.matches("\\s+(public )?[A-Z]\\w*\\(.*\\) \\{");
            inMethod = head || inMethod && !constructor && !line.matches("    (    )?\\}");
            if (inMethod && line.matches(".*\\bnew\\b.*")) {
                many++;
                System.out.println("made in a method: " + line.trim());
            }
        }
        return many;
    }

    private static int longMethods(String text) {
        int many = 0;
        int from = 0;
        String[] lines = text.split("\n");
        for (int i = 0; i < lines.length; i++) {
            if (lines[i].matches("    (    )?(public|private|static|int|long|boolean|void)\\b.*\\) \\{")) {
                from = i;
            }
            if (lines[i].matches("    (    )?\\}") && from > 0 && i - from >= 60) {
                many++;
                System.out.println("a long method: " + lines[from].trim());
            }
            from = lines[i].matches("    (    )?\\}") ? 0 : from;
        }
        return many;
    }
}

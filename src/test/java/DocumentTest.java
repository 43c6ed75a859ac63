import java.nio.file.Files;
import java.nio.file.Path;
import java.util.Arrays;
import java.util.List;
import java.util.regex.Matcher;
import java.util.regex.Pattern;
import java.util.stream.Collectors;
import java.util.stream.Stream;

/** The document from its first line to its last: each word of it that asks for something is quoted by a test. */
final class DocumentTest {
    /** What asks for nothing that an answer could show, or what another test reads for itself. */
    private static final String[] NOT_TO_BE_QUOTED = {
        // What the document begins with only tells what follows.
        "(?s)\\A# EdgesFit\\s+## What it is.*?======== 1 ",
        "; what later calls answer is free\\.",
        // FaceTest reads the face, and what each promise is of.
        "(?s)## The public face.*?\n```\n",
        "`(int|long)? ?\\w+\\([^`]*\\)`",
        "(?m)^##.*$", "(?m)^```\\w*$", "======== \\d",
        // Which calls stand together; what is told of those on fits is quoted.
        "Ahead of the calls [^:]*:( ---- [^(\n]*$)?",
        "(?s)## Not promised.*\\z"};
    private static final Pattern QUOTE =
        Pattern.compile("BY\\.of\\((Sentences\\.TERMS|\\d+), \"((?:[^\"\\\\]|\\\\.)*)\"\\);");
    private static final int PROMISES = 33;

    private final Check check = new Check();
    private final String document;
    private final boolean[] held;

    private DocumentTest(String document) {
        this.document = document;
        held = new boolean[document.length()];
    }

    public static void main(String[] args) throws Exception {
        DocumentTest test = new DocumentTest(Files.readString(Path.of("../shared/DOC.md")));
        for (String free : NOT_TO_BE_QUOTED) {
            test.letOut(free);
        }
        for (Path source : sources()) {
            test.quotes(source, Files.readString(source));
        }
        test.words();
        test.check.end();
    }

    private static List<Path> sources() throws Exception {
        try (Stream<Path> files = Files.list(Path.of("src/test/java"))) {
            return files.filter(file -> file.toString().endsWith("SentencesTest.java")).sorted().collect(Collectors.toList());
        }
    }

    private void letOut(String free) {
        Matcher matcher = Pattern.compile(free, Pattern.MULTILINE).matcher(document);
        boolean any = false;
        while (matcher.find()) {
            any = true;
            Arrays.fill(held, matcher.start(), matcher.end(), true);
        }
        check.due("the document has " + free, any ? 1 : 0, 1);
    }

    private int start(int promise) {
        return promise > PROMISES ? document.indexOf("## Not promised") : document.indexOf("## Promise " + promise + ":");
    }

    private void quotes(Path source, String text) {
        int many = 0;
        Matcher matcher = QUOTE.matcher(text);
        while (matcher.find()) {
            many++;
            int promise = matcher.group(1).startsWith("S") ? Sentences.TERMS : Integer.parseInt(matcher.group(1));
            hold(source + ": ", promise, matcher.group(2).replace("\\\"", "\""));
        }
        check.due(source + ": quotes that could be read", many, text.split("BY\\.of\\(", -1).length - 1);
    }

    private void hold(String at, int promise, String words) {
        int from = document.indexOf(words, promise == Sentences.TERMS ? 0 : start(promise));
        boolean there = from >= 0 && from + words.length() <= start(promise + 1);
        check.due(at + "\"" + words + "\" stands in promise " + promise, there ? 1 : 0, 1);
        if (there) {
            Arrays.fill(held, from, from + words.length(), true);
        }
    }

    private void words() {
        Matcher matcher = Pattern.compile("[\\w\"&|!<=>-]+").matcher(document);
        while (matcher.find()) {
            for (int i = matcher.start(); i < matcher.end(); i++) {
                if (!held[i]) {
                    int line = document.substring(0, i).split("\n", -1).length;
                    check.due("tests of '" + matcher.group() + "' in line " + line + " of the document", 0, 1);
                    break;
                }
            }
        }
    }
}

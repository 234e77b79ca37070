import java.io.IOException;
import java.nio.file.Files;
import java.nio.file.Path;
import java.util.stream.IntStream;

/** Counts the answers that are not due, and ends a test with exit code 1 if there was one. */
final class Checks {
    private static final Path DOCUMENT = Path.of("../shared/DOC.md");

    private final String document = readDocument();
    private String sentence = "";
    private int madeBefore = 0;
    private int made = 0;
    private int wrong = 0;

    void due(String call, long got, long want) {
        made++;
        if (got != want) {
            complain(call + " answered " + got + ", due is " + want);
        }
    }

    void due(String call, String got, String want) {
        made++;
        if (!got.equals(want)) {
            complain(call + " answered\n  " + got + "\n  due is\n  " + want);
        }
    }

    /** Names the sentence of the document that the next answers are about. */
    void sentence(String words) {
        endSentence();
        sentence = words;
        madeBefore = made;
        if (!document.isEmpty() && !document.contains(words)) {
            complain("these words do not stand in the document");
        }
    }

    private void endSentence() {
        if (!sentence.isEmpty() && made == madeBefore) {
            complain("nothing was asked");
        }
        sentence = "";
    }

    private void complain(String what) {
        wrong++;
        System.out.println(sentence.isEmpty() ? what : "\"" + sentence + "\": " + what);
    }

    void finish(String name) {
        endSentence();
        System.out.println(name + ": " + made + " answers, " + wrong + " not as due");
        if (wrong != 0 || made == 0) {
            System.exit(1);
        }
    }

    /** The document, or nothing if it is not there: then the words of the sentences go unchecked. */
    private static String readDocument() {
        try {
            return Files.readString(DOCUMENT);
        } catch (IOException e) {
            return "";
        }
    }

    /** Numbers that are not from low to high, those that a narrower type would take for one too. */
    static int[] outside(int low, int high) {
        return IntStream.of(low - 1, high + 1, low - 256, high + 256, low + 65536, high - 65536,
                Integer.MIN_VALUE, Integer.MIN_VALUE + low, Integer.MIN_VALUE + high,
                Integer.MAX_VALUE).filter(value -> value < low || value > high).toArray();
    }

    /** Appends the characters of a text. */
    static void type(NewspaperMakeup paper, String text) {
        for (int i = 0; i < text.length(); i++) {
            paper.appendCharacter(text.charAt(i));
        }
    }

    /** A new newspaper with the stories of a text. */
    static NewspaperMakeup loaded(int pages, int columns, int lines, String text) {
        NewspaperMakeup paper = new NewspaperMakeup();
        paper.setPages(pages, columns, lines);
        type(paper, text);
        paper.load();
        return paper;
    }
}

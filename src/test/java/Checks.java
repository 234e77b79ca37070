/** Counts the answers that are not due, and ends a test with exit code 1 if there was one. */
final class Checks {
    private int made = 0;
    private int wrong = 0;

    void due(String call, long got, long want) {
        made++;
        if (got != want) {
            wrong++;
            System.out.println(call + " answered " + got + ", due is " + want);
        }
    }

    void finish(String name) {
        System.out.println(name + ": " + made + " answers, " + wrong + " not as due");
        if (wrong != 0 || made == 0) {
            System.exit(1);
        }
    }

    /** Appends the characters of a text. */
    static void type(NewspaperMakeup paper, String text) {
        for (int i = 0; i < text.length(); i++) {
            paper.appendCharacter(text.charAt(i));
        }
    }

    /** A new newspaper with the stories of a text. */
    static NewspaperMakeup loaded(int pages, int columns, int lines, String text) {
        NewspaperMakeup paper = new NewspaperMakeup();
        paper.setPages(pages, columns, lines);
        type(paper, text);
        paper.load();
        return paper;
    }
}

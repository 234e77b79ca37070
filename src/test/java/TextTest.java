/** Promises 13 to 15: the text, and the reading of stories from it. */
final class TextTest {
    private static final int INVALID = NewspaperMakeup.INVALID_ARGUMENT;
    private static final int FULL = NewspaperMakeup.CAPACITY_EXCEEDED;
    private static final int NONE = NewspaperMakeup.NONE;

    private static final Checks checks = new Checks();

    private static void due(String call, long got, long want) {
        checks.due(call, got, want);
    }

    public static void main(String[] args) {
        appendAndClear();
        goodTexts();
        numbers();
        signs();
        ends();
        ninthParagraph();
        thirteenthStory();
        earlierText();
        homeDependsOnPages();
        errorChangesNothing();
        checks.finish("TextTest");
    }

    private static void appendAndClear() {
        NewspaperMakeup x = new NewspaperMakeup();
        due("character -1", x.appendCharacter(-1), INVALID);
        due("character 256", x.appendCharacter(256), INVALID);
        for (int i = 1; i <= 120; i++) {
            due("character " + i, x.appendCharacter(i == 1 ? 0 : 255), i);
        }
        due("full", x.appendCharacter(32), FULL);
        due("INVALID goes first", x.appendCharacter(256), INVALID);
        due("length", x.count(6), 120);
        due("clear", x.clearText(), 120);
        due("clear", x.clearText(), 0);
        due("no state saved", x.count(7), 0);
        due("from the start again", x.appendCharacter(255), 1);
    }

    /** The answer of load() for a text on a newspaper with three pages. */
    private static int read(String text) {
        NewspaperMakeup x = new NewspaperMakeup();
        Checks.type(x, text);
        return x.load();
    }

    private static void position(String text, int position) {
        due("\"" + text + "\"", read(text), -10 - position);
    }

    private static void goodTexts() {
        due("empty", read(""), 0);
        due("spaces", read("    "), 0);
        due("one", read("1@0:1;"), 1);
        due("eight paragraphs", read("99@2:1,2,3,4,5,6,7,30;"), 1);
        due("spaces everywhere", read("  9 @ 0 : 1 , 30 ;  10@1 :9;  "), 2);
        NewspaperMakeup x = Checks.loaded(3, 2, 30, "7@1:4;");
        Checks.type(x, "12@2:30,1,10;3@0:9;");
        due("two more", x.load(), 2);
        due("text is empty", x.count(6), 0);
        due("stories", x.count(3), 3);
        due("rank", x.story(1, 0), 12);
        due("home", x.story(1, 1), 2);
        due("paragraphs", x.story(1, 2), 3);
        due("paragraph 0", x.paragraph(1, 0), 30);
        due("paragraph 1", x.paragraph(1, 1), 1);
        due("paragraph 2", x.paragraph(1, 2), 10);
        due("paragraph 3", x.paragraph(1, 3), NONE);
        due("alive", x.story(1, 4), 1);
        due("second rank", x.story(2, 0), 3);
        due("first stays", x.story(0, 0), 7);
    }

    private static void numbers() {
        position("0@0:1;", 0);
        position(" 00@0:1;", 1);
        position("01@0:1;", 0);
        position("100@0:1;", 2);
        position("1@3:1;", 2);
        position("1@00:1;", 2);
        position("1@ 01:1;", 3);
        position("1@10:1;", 2);
        position("1@0:0;", 4);
        position("1@0:31;", 4);
        position("1@0:05;", 4);
        position("1@0:1,31;", 6);
        position("1@0:300;", 6);
        // Two digits that are out of range are read before the third one.
        position("1@0:310;", 4);
        position("1 2@0:1;", 2);
        position("12 3@0:1;", 3);
        position("1@0:1 1;", 6);
    }

    private static void signs() {
        position("@0:1;", 0);
        position("1:0:1;", 1);
        position("1@:1;", 2);
        position("1@0,1;", 3);
        position("1@0:;", 4);
        position("1@0:1:", 5);
        position("1@0:1,;", 6);
        position("1@0:1,,1;", 6);
        position("1@0:1;;", 6);
        position("1@0:1; x", 7);
        position("-1@0:1;", 0);
        position("1@0:1;\t", 6);
        position("1@0:1" + (char) 0 + ";", 5);
        position("1@0:1;" + (char) 255, 6);
        position("1" + (char) ('@' + 128) + "0:1;", 1);
    }

    private static void ends() {
        position("1", 1);
        position("12", 2);
        position("1  ", 3);
        position("1@", 2);
        position("1@0", 3);
        position("1@0:", 4);
        position("1@0: ", 5);
        position("1@0:1", 5);
        position("1@0:1,", 6);
        position("1@0:1;1", 7);
        position("0", 0);
        position("1@0:31", 4);
    }

    private static void ninthParagraph() {
        position("1@0:1,1,1,1,1,1,1,1,1;", 20);
        position("1@0:1,1,1,1,1,1,1,1, 0;", 21);
        position("1@0:1,1,1,1,1,1,1,1,;", 20);
        position("1@0:1,1,1,1,1,1,1,1,", 20);
        position("1@0:1,1,1,1,1,1,1,1, ", 21);
        position("1@0:1,1,1,1,1,1,1,1", 19);
        position("1@0:1,1,1,1,1,1,1,1:", 19);
    }

    private static void thirteenthStory() {
        NewspaperMakeup x = new NewspaperMakeup();
        for (int i = 0; i < 10; i++) {
            x.addStory(1, 0, 1);
        }
        Checks.type(x, "1@0:1;1@0:1; 123@0:1;");
        due("the rank of the thirteenth", x.load(), -10 - 13);
        due("kept", x.clearText(), 21);
        Checks.type(x, "1@0:1;1@0:1;  ");
        due("twelve", x.load(), 2);
        due("twelve", x.count(3), 12);
        Checks.type(x, "  ");
        due("nothing to add", x.load(), 0);
        Checks.type(x, " ;");
        due("no rank there", x.load(), -11);
        x.clearText();
        Checks.type(x, "1");
        due("no room", x.load(), -10);
        StringBuilder twelve = new StringBuilder();
        for (int i = 0; i < 12; i++) {
            twelve.append("1@0:1;");
        }
        due("twelve in one text", read(twelve.toString()), 12);
        position(twelve + "1@0:1;", 72);
        position(twelve + "  9", 74);
    }

    /** What an earlier, longer text had behind the end of the present one does not count. */
    private static void earlierText() {
        NewspaperMakeup x = new NewspaperMakeup();
        Checks.type(x, "1@0:12;");
        x.clearText();
        Checks.type(x, "1@0:12");
        due("no sign behind the end", x.load(), -16);
        x.clearText();
        Checks.type(x, "1@0:1");
        due("no digit behind the end", x.load(), -15);
    }

    private static void homeDependsOnPages() {
        NewspaperMakeup x = new NewspaperMakeup();
        Checks.type(x, "1@4:1;");
        due("three pages", x.load(), -12);
        x.setPages(5, 1, 10);
        due("five pages, text kept", x.load(), 1);
    }

    private static void errorChangesNothing() {
        NewspaperMakeup x = Checks.loaded(3, 2, 30, "7@1:4;");
        int saved = x.count(7);
        Checks.type(x, "2@0:1;3@1:2,3;4@9:1;");
        due("error", x.load(), -10 - 16);
        due("no story added", x.count(3), 1);
        due("text kept", x.count(6), 20);
        due("no state saved", x.count(7), saved);
        due("same again", x.load(), -10 - 16);
    }
}

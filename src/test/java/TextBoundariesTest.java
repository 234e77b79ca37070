/** The boundaries that "Text" and promises 13 to 15 name, sentence by sentence. */
final class TextBoundariesTest {
    private static final int INVALID = NewspaperMakeup.INVALID_ARGUMENT;
    private static final int FULL = NewspaperMakeup.CAPACITY_EXCEEDED;
    private static final int NONE = NewspaperMakeup.NONE;

    private static final Checks checks = new Checks();

    private static void due(String call, long got, long want) {
        checks.due(call, got, want);
    }

    public static void main(String[] args) {
        atMost120Characters();
        perhapsEmpty();
        eachStoryEndsWithASemicolon();
        signsOfAStory();
        commasBetweenParagraphs();
        oneOrTwoDigits();
        noLeadingZero();
        noThirdDigit();
        spacesEverywhere();
        noSpaceWithinANumber();
        onlyCode32IsASpace();
        addedBehind();
        leftToRight();
        ranksOutOfRange();
        homesOutOfRange();
        paragraphsOutOfRange();
        zeroAndASecondDigit();
        ninthParagraph();
        thirteenthStory();
        textEnds();
        appendArguments();
        appendEveryCharacter();
        appendFull();
        clear();
        loadReturns();
        loadEmptiesTheText();
        loadErrorChangesNothing();
        checks.finish("TextBoundariesTest");
    }

    /** The answer of load() for a text on a newspaper with so many pages and stories. */
    private static int read(int pages, int stories, String text) {
        NewspaperMakeup x = new NewspaperMakeup();
        x.setPages(pages, 1, 10);
        for (int story = 0; story < stories; story++) {
            x.addStory(1, 0, 1);
        }
        Checks.type(x, text);
        return x.load();
    }

    private static void stories(String text, int number) {
        due("\"" + text + "\"", read(3, 0, text), number);
    }

    private static void position(String text, int position) {
        due("\"" + text + "\"", read(3, 0, text), -10 - position);
    }

    private static String times(int number, String text) {
        return text.repeat(number);
    }

    // ---- Text

    private static void atMost120Characters() {
        checks.sentence("Stories can be read from a text of at most 120 characters");
        String full = times(12, "1@0:1;") + times(48, " ");
        stories(full, 12);
        stories(times(48, " ") + times(12, "1@0:1;"), 12);
        position(times(119, " ") + ";", 119);
        position(times(119, " ") + "1", 120);
        NewspaperMakeup x = new NewspaperMakeup();
        Checks.type(x, full);
        due("120", x.count(6), 120);
        due("no 121st", x.appendCharacter(' '), FULL);
        due("120", x.count(6), 120);
    }

    private static void perhapsEmpty() {
        checks.sentence("a sequence of stories, perhaps empty");
        stories("", 0);
        stories(" ", 0);
        stories(times(120, " "), 0);
        due("behind twelve stories", read(3, 12, ""), 0);
        due("behind twelve stories", read(3, 12, "  "), 0);
    }

    private static void eachStoryEndsWithASemicolon() {
        checks.sentence("each of which ends with \";\".");
        stories("1@0:1;", 1);
        stories("1@0:1;2@1:2;", 2);
        position("1@0:1", 5);
        position("1@0:1;2@1:2", 11);
        position("1@0:1 2@1:2;", 6);
        position("1@0:1@", 5);
        position(";", 0);
        position("1@0:1;;", 6);
        position(";1@0:1;", 0);
    }

    private static void signsOfAStory() {
        checks.sentence("A story is its rank, \"@\", its home page, \":\", and its paragraphs");
        position("@0:1;", 0);
        position("1:1;", 1);
        position("1 0:1;", 2);
        position("1@:1;", 2);
        position("1@@0:1;", 2);
        position("1@0;", 3);
        position("1@0 1;", 4);
        position("1@0@1;", 3);
        position("1@0:;", 4);
        position("1@0::1;", 4);
        position("1;0:1;", 1);
        position("1,2@0:1;", 1);
    }

    private static void commasBetweenParagraphs() {
        checks.sentence("with \",\" between two of them.");
        String text = "1@0:1";
        for (int number = 2; number <= 8; number++) {
            text += ",1";
            stories(text + ";", 1);
        }
        position("1@0:,1;", 4);
        position("1@0:1,;", 6);
        position("1@0:1,,1;", 6);
        position("1@0:1 1;", 6);
        position("1@0:1:1;", 5);
    }

    private static void oneOrTwoDigits() {
        checks.sentence("Numbers have one or two digits");
        for (int rank = 1; rank <= 99; rank++) {
            NewspaperMakeup x = new NewspaperMakeup();
            Checks.type(x, rank + "@0:1;");
            due("rank " + rank, x.load(), 1);
            due("rank " + rank, x.story(0, 0), rank);
        }
        for (int lines = 1; lines <= 30; lines++) {
            NewspaperMakeup x = new NewspaperMakeup();
            Checks.type(x, "1@0:" + lines + "," + lines + ";");
            due("lines " + lines, x.load(), 1);
            due("lines " + lines, x.paragraph(0, 0), lines);
            due("lines " + lines, x.paragraph(0, 1), lines);
        }
    }

    private static void noLeadingZero() {
        checks.sentence("do not begin with 0 if they have two");
        position("01@0:1;", 0);
        position("1@00:1;", 2);
        position("1@01:1;", 2);
        position("1@0:01;", 4);
        position("1@0:1,09;", 6);
        stories("1@0:1;", 1);
        stories("10@0:10;", 1);
    }

    private static void noThirdDigit() {
        checks.sentence("(a third digit is not allowed where it stands)");
        position("100@0:1;", 2);
        position("999@0:1;", 2);
        position(" 123@0:1;", 3);
        position("1@0:100;", 6);
        position("1@0:300,1;", 6);
        position("1@0:1,129;", 8);
        position("1@0:1;123@0:1;", 8);
        position("1000@0:1;", 2);
    }

    private static void spacesEverywhere() {
        checks.sentence("Spaces (code 32) may stand everywhere except within a number.");
        String[] parts = {"12", "@", "2", ":", "30", ",", "1", ";", "3", "@", "0", ":", "4", ";"};
        for (int place = 0; place <= parts.length; place++) {
            for (int spaces = 1; spaces <= 3; spaces++) {
                String text = "";
                for (int i = 0; i < parts.length; i++) {
                    text += (i == place ? times(spaces, " ") : "") + parts[i];
                }
                stories(text + (place == parts.length ? times(spaces, " ") : ""), 2);
            }
        }
        stories(" " + String.join(" ", parts) + " ", 2);
    }

    private static void noSpaceWithinANumber() {
        checks.sentence("except within a number");
        position("1 2@0:1;", 2);
        position("1  2@0:1;", 3);
        position("1@0 0:1;", 4);
        position("1@0:3 0;", 6);
        position("1@0:1,1 0;", 8);
    }

    private static void onlyCode32IsASpace() {
        checks.sentence("Spaces (code 32)");
        for (int code = 0; code < 256; code++) {
            String sign = String.valueOf((char) code);
            boolean space = code == 32;
            boolean digit = code >= '0' && code <= '9';
            due("in front: " + code, read(3, 0, sign + "@0:1;"),
                    space ? -11 : digit && code != '0' ? 1 : -10);
            due("behind: " + code, read(3, 0, "1@0:1;" + sign),
                    space ? 1 : digit && code != '0' ? -17 : -16);
            due("before ;: " + code, read(3, 0, "1@0:1" + sign + ";"), space ? 1
                    : digit ? 1 : code == ',' ? -16 : code == ';' ? -16 : -15);
        }
    }

    private static void addedBehind() {
        checks.sentence("The stories are added behind the present ones.");
        NewspaperMakeup x = new NewspaperMakeup();
        for (int story = 0; story < 10; story++) {
            x.addStory(40 + story, 0, 1);
        }
        x.kill(9);
        Checks.type(x, "3@1:5,6;4@2:7;");
        due("two", x.load(), 2);
        due("present one", x.story(9, 0), 49);
        due("is still killed", x.story(9, 4), 0);
        due("first", x.story(10, 0), 3);
        due("first", x.paragraph(10, 1), 6);
        due("second", x.story(11, 0), 4);
        due("second", x.story(11, 1), 2);
        due("second is alive", x.story(11, 4), 1);
        due("second", x.paragraph(11, 1), NONE);
    }

    private static void leftToRight() {
        checks.sentence("The text is read from left to right; the error position is the offset "
                + "(from 0) of the first character that is not allowed where it stands");
        position("x", 0);
        position("  x", 2);
        position("1@9:31;", 2);
        position("0@9:31;", 0);
        position("1@0:31,x", 4);
        position("1@0:1x31;", 5);
        position("1@0:1;2@1:2;x", 12);
        position("1@0:1;x@1:2;y", 6);
        position("-1@0:1;", 0);
        position("+1@0:1;", 0);
        position("1@-1:1;", 2);
    }

    private static void ranksOutOfRange() {
        checks.sentence("for a number that is out of its range");
        position("0@0:1;", 0);
        position("  0@0:1;", 2);
        position("1@0:1;0@0:1;", 6);
        position("0", 0);
        stories("1@0:1;", 1);
        stories("99@0:1;", 1);
    }

    private static void homesOutOfRange() {
        checks.sentence("for a number that is out of its range");
        for (int pages = 2; pages <= 5; pages++) {
            for (int home = 0; home <= 9; home++) {
                due(pages + " pages, home " + home, read(pages, 0, "1@" + home + ":1;"),
                        home < pages ? 1 : -12);
            }
            due("home 10", read(pages, 0, "1@10:1;"), -12);
            due("home 99", read(pages, 0, "1@ 99:1;"), -13);
        }
    }

    private static void paragraphsOutOfRange() {
        checks.sentence("for a number that is out of its range");
        position("1@0:0;", 4);
        position("1@0: 0;", 5);
        position("1@0:31;", 4);
        position("1@0:99;", 4);
        position("1@0:1,31;", 6);
        position("1@0:1, 0;", 7);
        position("1@0:1,1,1,1,1,1,1,31;", 18);
        stories("1@0:30,1;", 1);
    }

    private static void zeroAndASecondDigit() {
        checks.sentence("or begins with 0 and has a second digit");
        position("00@0:1;", 0);
        position("  05@0:1;", 2);
        position("012@0:1;", 0);
        position("1@ 02:1;", 3);
        position("1@0:1, 030;", 7);
    }

    private static void ninthParagraph() {
        checks.sentence("and for a ninth paragraph, it is its first digit");
        String eight = "1@0:1,1,1,1,1,1,1,1";
        stories(eight + ";", 1);
        position(eight + ",1;", 20);
        position(eight + ",12;", 20);
        position(eight + ",  12;", 22);
        position(eight + ",31;", 20);
        position(eight + " , 0;", 22);
        position(eight + ",1", 20);
        // The comma before it is allowed: what stands behind it tells the error.
        position(eight + ",;", 20);
        position(eight + ",", 20);
        position(eight + ", ", 21);
        position("2@0:2;" + eight + ",1;", 26);
    }

    private static void thirteenthStory() {
        checks.sentence("for the rank of a thirteenth story, too.");
        position(times(12, "1@0:1;") + "1@0:1;", 72);
        position(times(12, "1@0:1;") + "  12", 74);
        due("one more than twelve", read(3, 11, "1@0:1;2@0:1;"), -16);
        due("one more than twelve", read(3, 12, "1@0:1;"), -10);
        due("one more than twelve", read(3, 12, "  99@0:1;"), -12);
        due("one more than twelve", read(3, 12, "0"), -10);
        due("exactly twelve", read(3, 11, "1@0:1; "), 1);
        due("exactly twelve", read(3, 10, "1@0:1;2@0:1;"), 2);
        NewspaperMakeup x = new NewspaperMakeup();
        for (int story = 0; story < 12; story++) {
            x.addStory(1, 0, 1);
            x.kill(story);
        }
        Checks.type(x, "1@0:1;");
        due("killed ones count", x.load(), -10);
    }

    private static void textEnds() {
        checks.sentence("If the text ends where something is missing, it is the length of the "
                + "text.");
        String text = " 12 @ 2 : 30 , 1 ; 3@0:4,5;";
        for (int length = 0; length <= text.length(); length++) {
            String prefix = text.substring(0, length);
            String bare = prefix.replace(" ", "");
            boolean whole = bare.isEmpty() || bare.endsWith(";");
            int number = bare.length() - bare.replace(";", "").length();
            due("\"" + prefix + "\"", read(3, 0, prefix), whole ? number : -10 - length);
        }
    }

    // ---- Promise 13

    private static void appendArguments() {
        checks.sentence("Returns the new length of the text; INVALID_ARGUMENT if character is out "
                + "of range");
        NewspaperMakeup x = new NewspaperMakeup();
        for (int wrong : Checks.outside(0, 255)) {
            due("character " + wrong, x.appendCharacter(wrong), INVALID);
        }
        due("nothing was appended", x.count(6), 0);
        due("least", x.appendCharacter(0), 1);
        due("greatest", x.appendCharacter(255), 2);
    }

    private static void appendEveryCharacter() {
        checks.sentence("character code, 0 to 255");
        for (int from = 0; from < 256; from += 64) {
            NewspaperMakeup x = new NewspaperMakeup();
            for (int code = from; code < from + 64; code++) {
                due("character " + code, x.appendCharacter(code), code - from + 1);
            }
        }
        // A character is not taken for the one whose code has the same lower bits.
        int[] text = {'1', '@', '0', ':', '1', ';'};
        for (int i = 0; i < text.length; i++) {
            NewspaperMakeup x = new NewspaperMakeup();
            for (int j = 0; j < text.length; j++) {
                x.appendCharacter(i == j ? text[j] + 128 : text[j]);
            }
            due("another one at " + i, x.load(), -10 - i);
        }
    }

    private static void appendFull() {
        checks.sentence("CAPACITY_EXCEEDED if the text has 120 characters.");
        NewspaperMakeup x = new NewspaperMakeup();
        for (int length = 1; length <= 120; length++) {
            due("length", x.appendCharacter(' '), length);
        }
        due("121st", x.appendCharacter(' '), FULL);
        due("121st", x.appendCharacter('x'), FULL);
        due("it was not appended", x.load(), 0);
        due("room again", x.appendCharacter(' '), 1);
    }

    // ---- Promise 14

    private static void clear() {
        checks.sentence("Returns the previous length of the text.");
        NewspaperMakeup x = new NewspaperMakeup();
        due("empty", x.clearText(), 0);
        x.appendCharacter('1');
        due("one", x.clearText(), 1);
        due("empty", x.clearText(), 0);
        Checks.type(x, times(120, "1"));
        due("full", x.clearText(), 120);
        due("empty", x.count(6), 0);
        // Nothing of the text before stands behind the end of the new one.
        Checks.type(x, "1@0:1");
        due("the sign behind it was cleared", x.load(), -15);
    }

    // ---- Promise 15

    private static void loadReturns() {
        checks.sentence("Returns the number of stories that were added (perhaps 0)");
        for (int number = 0; number <= 12; number++) {
            stories(times(number, "1@0:1;"), number);
            due("behind others", read(3, 12 - number, times(number, "1@0:1;")), number);
        }
    }

    private static void loadEmptiesTheText() {
        checks.sentence("Reads the text as stories, which are added. The text becomes empty.");
        NewspaperMakeup x = new NewspaperMakeup();
        Checks.type(x, "1@0:1;");
        due("one", x.load(), 1);
        due("empty", x.count(6), 0);
        due("none again", x.load(), 0);
        Checks.type(x, "  ");
        due("none", x.load(), 0);
        due("empty", x.clearText(), 0);
        due("one story", x.count(3), 1);
    }

    private static void loadErrorChangesNothing() {
        checks.sentence("-10 minus the error position if the text has an error (then nothing "
                + "changes, and the text is kept).");
        NewspaperMakeup x = new NewspaperMakeup();
        Checks.type(x, "1@0:1;2@0:2,3;x");
        due("error", x.load(), -24);
        due("no story", x.count(3), 0);
        due("the text is kept", x.count(6), 15);
        due("no state is saved", x.count(7), 0);
        due("again", x.load(), -24);
        x.addStory(9, 1, 9);
        due("the next story", x.story(0, 2), 1);
        due("error", x.load(), -24);
        due("one story", x.count(3), 1);
        due("one state is saved", x.count(7), 1);
        // The text is kept as it was: with fewer pages another sign is wrong.
        NewspaperMakeup y = new NewspaperMakeup();
        Checks.type(y, "1@2:1;2@3:1;");
        due("page 3 of 3", y.load(), -18);
        y.setPages(2, 1, 10);
        due("page 2 of 2", y.load(), -12);
        y.setPages(4, 1, 10);
        due("page 3 of 4", y.load(), 2);
    }
}

/** The boundaries that promises 16 to 25 name, sentence by sentence. */
final class AnswerBoundariesTest {
    private static final int INVALID = NewspaperMakeup.INVALID_ARGUMENT;
    private static final int STATE = NewspaperMakeup.ILLEGAL_STATE;
    private static final int NONE = NewspaperMakeup.NONE;
    private static final int MIN = Integer.MIN_VALUE;
    private static final int MAX = Integer.MAX_VALUE;

    private static final Checks checks = new Checks();

    private static void due(String call, long got, long want) {
        checks.due(call, got, want);
    }

    public static void main(String[] args) {
        makeReturns();
        editionArguments();
        editionNumbers();
        editionJumpLines();
        editionFreeLines();
        piecesReturns();
        piecesNobody();
        piecesKilledOrNotThere();
        pieceArguments();
        pieceNone();
        pieceProperties();
        pieceLeadsAndComes();
        atStory();
        atOutside();
        atOfThePagesThen();
        longestGapReturns();
        longestGapOutside();
        wasMovedReturns();
        wasMovedNobody();
        wasMovedNotPrinted();
        noEditionIsIllegal();
        nextArguments();
        nextReturns();
        nextChangesNothing();
        piecesWithArguments();
        piecesWithReturns();
        piecesWithKilled();
        piecesWithIsNoChange();
        roomForReturns();
        roomForNone();
        roomForGreatest();
        roomForArguments();
        roomForKilledOrEight();
        checks.finish("AnswerBoundariesTest");
    }

    private static NewspaperMakeup made(int pages, int columns, int lines, String text) {
        NewspaperMakeup x = Checks.loaded(pages, columns, lines, text);
        x.make();
        return x;
    }

    private static void edition(NewspaperMakeup x, int... want) {
        for (int what = 0; what < want.length; what++) {
            due("edition " + what, x.edition(what), want[what]);
        }
    }

    // ---- Promise 16

    private static void makeReturns() {
        checks.sentence("Returns the number of stories that are held over in it.");
        due("no story", new NewspaperMakeup().make(), 0);
        NewspaperMakeup x = new NewspaperMakeup();
        x.setPages(2, 1, 10);
        for (int story = 0; story < 12; story++) {
            x.addStory(1, 0, 11);
        }
        due("all twelve", x.make(), 12);
        x.kill(11);
        due("a killed one is not held over", x.make(), 11);
        x.setParagraph(10, 0, 10);
        due("one has room", x.make(), 10);
        for (int story = 0; story < 11; story++) {
            x.kill(story);
        }
        due("all are killed", x.make(), 0);
    }

    // ---- Promise 17

    private static void editionArguments() {
        checks.sentence("Returns the number; INVALID_ARGUMENT if what is out of range; "
                + "ILLEGAL_STATE if there is no edition.");
        NewspaperMakeup x = new NewspaperMakeup();
        for (int what = 0; what <= 5; what++) {
            due("no edition: what " + what, x.edition(what), STATE);
        }
        for (int wrong : Checks.outside(0, 5)) {
            due("no edition: what " + wrong, x.edition(wrong), INVALID);
        }
        x.make();
        int[] want = {0, 0, 0, 0, 0, 180};
        edition(x, want);
        for (int wrong : Checks.outside(0, 5)) {
            due("what " + wrong, x.edition(wrong), INVALID);
        }
        x.undo();
        due("no edition again", x.edition(0), STATE);
    }

    private static void editionNumbers() {
        checks.sentence("0 the stories that were printed, 1 held over, 2 moved, 3 the pieces");
        NewspaperMakeup x = new NewspaperMakeup();
        x.setPages(5, 4, 60);
        for (int story = 0; story < 12; story++) {
            x.addStory(2, story % 5, 20);
        }
        x.make();
        edition(x, 12, 0, 0, 12, 0, 1200 - 240);
        for (int page = 0; page < 5; page++) {
            x.setHome(page, (page + 1) % 5);
        }
        x.make();
        due("moved", x.edition(2), 5);
        x.setPages(5, 4, 19);
        x.make();
        edition(x, 0, 12, 0, 0, 0, 380);
        due("killed ones do not count", x.kill(3), 11);
        x.make();
        edition(x, 0, 11, 0, 0, 0, 380);
        x.kill(0);
        edition(x, 0, 11, 0, 0, 0, 380);
    }

    private static void editionJumpLines() {
        checks.sentence("4 the jump lines (at ends and at beginnings of pieces)");
        due("one piece", made(3, 1, 10, "1@0:10;").edition(4), 0);
        due("two pieces", made(3, 1, 10, "1@0:9,9;").edition(4), 2);
        due("three pieces", made(3, 1, 10, "1@0:9,8,9;").edition(4), 4);
        due("held over", made(3, 1, 10, "1@0:9,8,10;").edition(4), 0);
        due("two stories", made(3, 2, 10, "1@0:9,8,9;2@0:9,9;3@2:5;").edition(4), 6);
    }

    private static void editionFreeLines() {
        checks.sentence("5 the free lines on all pages (as they were when it was made)");
        NewspaperMakeup x = made(2, 1, 10, "1@0:10;1@1:10;");
        due("full", x.edition(5), 0);
        x.setPages(5, 4, 60);
        x.kill(0);
        x.setParagraph(1, 0, 1);
        due("still full", x.edition(5), 0);
        x.make();
        due("all but one", x.edition(5), 1199);
        x.setPages(2, 1, 10);
        due("still all but one", x.edition(5), 1199);
        due("jump lines are not free", made(2, 1, 10, "1@0:9,9;").edition(5), 0);
    }

    // ---- Promise 18

    private static void piecesReturns() {
        checks.sentence("Returns the number of its pieces, 0 if it is held over");
        NewspaperMakeup x = made(5, 1, 10, "1@0:10;2@1:9,9;2@3:9,8,9;4@4:1;");
        due("one", x.pieces(0), 1);
        due("two", x.pieces(1), 2);
        due("no page is left for its rest", x.pieces(2), 0);
        due("one", x.pieces(3), 1);
        x.kill(1);
        x.kill(3);
        x.make();
        due("three", x.pieces(2), 3);
        x.setParagraph(0, 0, 1);
        x.addParagraph(0, 1);
        due("as it was made", x.pieces(0), 1);
    }

    private static void piecesNobody() {
        checks.sentence("INVALID_ARGUMENT if there is no such story; ILLEGAL_STATE if there is no "
                + "edition; NONE if it was killed, or not there, when the edition was made.");
        for (int stories : new int[] {0, 1, 11, 12}) {
            NewspaperMakeup x = new NewspaperMakeup();
            for (int story = 0; story < stories; story++) {
                x.addStory(1, 0, 1);
            }
            for (int story = 0; story < stories; story++) {
                due("no edition", x.pieces(story), STATE);
            }
            for (int wrong : Checks.outside(0, stories - 1)) {
                due("no edition: story " + wrong, x.pieces(wrong), INVALID);
            }
            x.make();
            for (int wrong : Checks.outside(0, stories - 1)) {
                due("story " + wrong, x.pieces(wrong), INVALID);
            }
        }
    }

    private static void piecesKilledOrNotThere() {
        checks.sentence("NONE if it was killed, or not there, when the edition was made.");
        NewspaperMakeup x = Checks.loaded(2, 1, 10, "1@0:2;1@0:11;1@0:3;");
        x.kill(0);
        x.make();
        x.addStory(1, 0, 1);
        due("killed", x.pieces(0), NONE);
        due("held over", x.pieces(1), 0);
        due("printed", x.pieces(2), 1);
        due("not there", x.pieces(3), NONE);
        x.revive(0);
        due("killed then", x.pieces(0), NONE);
        x.kill(1);
        x.kill(2);
        due("held over then", x.pieces(1), 0);
        due("printed then", x.pieces(2), 1);
        x.make();
        due("alive", x.pieces(0), 1);
        due("killed", x.pieces(1), NONE);
        due("killed", x.pieces(2), NONE);
        due("there", x.pieces(3), 1);
        NewspaperMakeup y = new NewspaperMakeup();
        y.make();
        for (int story = 0; story < 12; story++) {
            y.addStory(1, 0, 1);
            due("not there", y.pieces(story), NONE);
        }
    }

    // ---- Promise 19

    private static void pieceArguments() {
        checks.sentence("Returns the property; INVALID_ARGUMENT if there is no such story, piece "
                + "is negative, or what is out of range; ILLEGAL_STATE if there is no edition; "
                + "NONE if there is no such piece.");
        NewspaperMakeup x = Checks.loaded(2, 1, 10, "1@0:2;1@0:11;1@0:3;");
        for (int edition = 0; edition < 2; edition++) {
            for (int wrong : Checks.outside(0, 2)) {
                due("story " + wrong, x.piece(wrong, 0, 0), INVALID);
            }
            for (int wrong : new int[] {-1, -2, -3, -256, -65536, MIN, MIN + 1}) {
                due("piece " + wrong, x.piece(0, wrong, 0), INVALID);
                due("of a story that is held over", x.piece(1, wrong, 0), INVALID);
            }
            for (int wrong : Checks.outside(0, 7)) {
                due("what " + wrong, x.piece(0, 0, wrong), INVALID);
                due("what " + wrong + " of no piece", x.piece(0, 1, wrong), INVALID);
            }
            due("no edition", x.piece(0, 0, 0), edition == 0 ? STATE : 0);
            due("no edition and no such piece", x.piece(0, 3, 7), edition == 0 ? STATE : NONE);
            x.make();
        }
    }

    private static void pieceNone() {
        checks.sentence("NONE if there is no such piece.");
        NewspaperMakeup x = Checks.loaded(5, 1, 10, "1@0:10;1@1:9,9;1@3:11;1@4:1;1@4:9,8,9;");
        x.kill(3);
        x.make();
        x.addStory(1, 0, 1);
        int[] pieces = {1, 2, 0, 0, 0, 0};
        for (int story = 0; story < pieces.length; story++) {
            for (int what = 0; what < 8; what++) {
                for (int piece : new int[] {0, 1, 2, 3, 4, 256, 65536, MAX}) {
                    if (piece >= pieces[story]) {
                        due("story " + story + ", piece " + piece, x.piece(story, piece, what),
                                NONE);
                    }
                }
            }
        }
        NewspaperMakeup y = made(3, 1, 10, "1@0:9,8,9;1@0:10;");
        due("third", y.piece(0, 2, 0), 2);
        due("no fourth", y.piece(0, 3, 0), NONE);
    }

    private static void pieceProperties() {
        checks.sentence("0 its page, 1 its column, 2 its top, 3 the number of lines that it takes, "
                + "4 its first paragraph, 5 the number of its paragraphs");
        NewspaperMakeup x = new NewspaperMakeup();
        x.setPages(5, 4, 60);
        for (int column = 0; column < 3; column++) {
            x.addStory(1, 4, 30);
            x.addParagraph(column, 30);
        }
        x.addStory(1, 4, 30);
        x.addParagraph(3, 29);
        x.addStory(2, 4, 1);
        x.make();
        int[] last = {4, 3, 59, 1, 0, 1};
        int[] first = {4, 0, 0, 60, 0, 2};
        for (int what = 0; what < 6; what++) {
            due("the last line of all", x.piece(4, 0, what), last[what]);
            due("the longest piece", x.piece(0, 0, what), first[what]);
        }
    }

    private static void pieceLeadsAndComes() {
        checks.sentence("6 the page to which its jump line at the end leads (NONE if it has none), "
                + "7 the page from which it comes (NONE for the first piece)");
        NewspaperMakeup x = made(3, 1, 10, "1@2:9,8,9;");
        int[] leads = {0, 1, NONE};
        int[] comes = {NONE, 2, 0};
        for (int piece = 0; piece < 3; piece++) {
            due("leads", x.piece(0, piece, 6), leads[piece]);
            due("comes", x.piece(0, piece, 7), comes[piece]);
        }
        x.setParagraph(0, 1, 0);
        x.make();
        due("two pieces: leads", x.piece(0, 0, 6), 0);
        due("two pieces: comes", x.piece(0, 0, 7), NONE);
        due("two pieces: leads", x.piece(0, 1, 6), NONE);
        due("two pieces: comes", x.piece(0, 1, 7), 2);
        x.setParagraph(0, 1, 0);
        x.make();
        due("one piece: leads", x.piece(0, 0, 6), NONE);
        due("one piece: comes", x.piece(0, 0, 7), NONE);
    }

    // ---- Promise 20

    private static void atStory() {
        checks.sentence("Returns the story that has a line in the latest edition.");
        NewspaperMakeup x = made(2, 2, 10, "1@0:4;2@0:3,3;3@0:8,8;4@1:1;");
        // Page 0: stories 0 and 1, then 2 with its jump line; page 1: 2 with its jump line, and 3.
        int[][] columns = {{0, 0, 0, 0, 1, 1, 1, 1, 1, 1}, {2, 2, 2, 2, 2, 2, 2, 2, 2, NONE},
            {2, 2, 2, 2, 2, 2, 2, 2, 2, 3}, {NONE, NONE, NONE, NONE, NONE, NONE, NONE, NONE, NONE,
            NONE}};
        for (int column = 0; column < 4; column++) {
            for (int line = 0; line < 10; line++) {
                due("line " + line + " of column " + column, x.at(column / 2, column % 2, line),
                        columns[column][line]);
            }
        }
        x.kill(0);
        x.setParagraph(1, 0, 1);
        due("as it was made", x.at(0, 0, 0), 0);
        due("as it was made", x.at(0, 0, 9), 1);
    }

    private static void atOutside() {
        checks.sentence("Returns the story; ILLEGAL_STATE if there is no edition; INVALID_ARGUMENT "
                + "if there was no such page, column or line; NONE if the line is free.");
        int[][] sizes = {{2, 1, 10}, {5, 4, 60}, {3, 2, 30}};
        for (int[] size : sizes) {
            NewspaperMakeup x = new NewspaperMakeup();
            x.setPages(size[0], size[1], size[2]);
            due("no edition", x.at(0, 0, 0), STATE);
            due("no edition, no such page", x.at(-1, 0, 0), STATE);
            due("no edition, no such column", x.at(0, MAX, 0), STATE);
            due("no edition, no such line", x.at(0, 0, MIN), STATE);
            x.make();
            for (int wrong : Checks.outside(0, size[0] - 1)) {
                due("page " + wrong, x.at(wrong, 0, 0), INVALID);
            }
            for (int wrong : Checks.outside(0, size[1] - 1)) {
                due("column " + wrong, x.at(0, wrong, 0), INVALID);
            }
            for (int wrong : Checks.outside(0, size[2] - 1)) {
                due("line " + wrong, x.at(0, 0, wrong), INVALID);
            }
            due("first", x.at(0, 0, 0), NONE);
            due("last", x.at(size[0] - 1, size[1] - 1, size[2] - 1), NONE);
        }
    }

    private static void atOfThePagesThen() {
        checks.sentence("a page (of those that there were then)");
        NewspaperMakeup x = made(3, 2, 20, "1@0:20;");
        x.setPages(5, 4, 60);
        due("page 3", x.at(3, 0, 0), INVALID);
        due("column 2", x.at(0, 2, 0), INVALID);
        due("line 20", x.at(0, 0, 20), INVALID);
        due("page 3", x.longestGap(3), INVALID);
        x.setPages(2, 1, 10);
        due("page 2", x.at(2, 0, 0), NONE);
        due("column 1", x.at(0, 1, 0), NONE);
        due("line 19", x.at(0, 0, 19), 0);
        due("page 2", x.longestGap(2), 20);
        x.make();
        due("page 2", x.at(2, 0, 0), INVALID);
        due("column 1", x.at(0, 1, 0), INVALID);
        due("line 10", x.at(0, 0, 10), INVALID);
        due("page 2", x.longestGap(2), INVALID);
    }

    // ---- Promise 21

    private static void longestGapReturns() {
        checks.sentence("Returns its number of lines, 0 if the page is full");
        NewspaperMakeup x = made(2, 1, 10, "1@0:10;1@1:9;");
        due("full", x.longestGap(0), 0);
        due("one line", x.longestGap(1), 1);
        NewspaperMakeup y = made(5, 4, 60, "");
        due("the longest of all", y.longestGap(4), 60);
        // Gaps at the beginning, inside and at the end of a column.
        int[][] gaps = {{3, 1, 2}, {1, 3, 2}, {1, 2, 3}, {2, 2, 2}};
        for (int[] gap : gaps) {
            NewspaperMakeup z = new NewspaperMakeup();
            z.setPages(2, 1, 10);
            z.addStory(1, 0, gap[0]);
            z.addStory(1, 0, 2);
            z.addStory(1, 0, gap[1]);
            z.addStory(1, 0, 8 - gap[0] - gap[1] - gap[2]);
            z.make();
            z.kill(0);
            z.kill(2);
            z.make();
            due("longest", z.longestGap(0), Math.max(gap[0], Math.max(gap[1], gap[2])));
        }
        // In the last column, not in the first one; two gaps are not one.
        due("column 1", made(2, 2, 10, "1@0:8;2@0:4;").longestGap(0), 6);
        due("column 0", made(2, 2, 10, "1@0:4;2@0:8;").longestGap(0), 6);
    }

    private static void longestGapOutside() {
        checks.sentence("ILLEGAL_STATE if there is no edition; INVALID_ARGUMENT if there was no "
                + "such page.");
        for (int pages = 2; pages <= 5; pages++) {
            NewspaperMakeup x = new NewspaperMakeup();
            x.setPages(pages, 1, 10);
            due("no edition", x.longestGap(0), STATE);
            due("no edition, no such page", x.longestGap(pages), STATE);
            due("no edition, no such page", x.longestGap(-1), STATE);
            x.make();
            for (int wrong : Checks.outside(0, pages - 1)) {
                due("page " + wrong, x.longestGap(wrong), INVALID);
            }
            due("the last page", x.longestGap(pages - 1), 10);
        }
    }

    // ---- Promise 22

    private static void wasMovedReturns() {
        checks.sentence("Tells whether a story was moved in the latest edition.");
        NewspaperMakeup x = made(2, 1, 10, "5@0:4;5@1:4;");
        due("the first edition", x.wasMoved(0), 0);
        x.setHome(0, 1);
        due("as it was made", x.wasMoved(0), 0);
        x.make();
        due("moved", x.wasMoved(0), 1);
        due("not moved", x.wasMoved(1), x.piece(1, 0, 2) == 0 ? 0 : 1);
        x.kill(0);
        due("as it was made", x.wasMoved(0), 1);
        x.undo();
        x.make();
        due("kept", x.wasMoved(0), 0);
        x.undo();
        due("undone", x.wasMoved(0), 1);
    }

    private static void wasMovedNobody() {
        checks.sentence("Returns 1 or 0; INVALID_ARGUMENT if there is no such story; ILLEGAL_STATE "
                + "if there is no edition; NONE if it is not printed in it.");
        for (int stories : new int[] {0, 1, 11, 12}) {
            NewspaperMakeup x = new NewspaperMakeup();
            for (int story = 0; story < stories; story++) {
                x.addStory(1, 0, 1);
            }
            for (int story = 0; story < stories; story++) {
                due("no edition", x.wasMoved(story), STATE);
            }
            for (int wrong : Checks.outside(0, stories - 1)) {
                due("no edition: story " + wrong, x.wasMoved(wrong), INVALID);
            }
            x.make();
            for (int wrong : Checks.outside(0, stories - 1)) {
                due("story " + wrong, x.wasMoved(wrong), INVALID);
            }
        }
    }

    private static void wasMovedNotPrinted() {
        checks.sentence("NONE if it is not printed in it.");
        NewspaperMakeup x = Checks.loaded(2, 1, 10, "1@0:2;1@0:11;1@0:3;");
        x.kill(0);
        x.make();
        x.addStory(1, 0, 1);
        due("killed", x.wasMoved(0), NONE);
        due("held over", x.wasMoved(1), NONE);
        due("printed", x.wasMoved(2), 0);
        due("not there", x.wasMoved(3), NONE);
        x.revive(0);
        due("killed then", x.wasMoved(0), NONE);
    }

    private static void noEditionIsIllegal() {
        checks.sentence("ILLEGAL_STATE if there is no edition");
        NewspaperMakeup x = new NewspaperMakeup();
        x.addStory(1, 0, 1);
        for (int round = 0; round < 2; round++) {
            due("edition", x.edition(0), STATE);
            due("pieces", x.pieces(0), STATE);
            due("piece", x.piece(0, 0, 0), STATE);
            due("at", x.at(0, 0, 0), STATE);
            due("longestGap", x.longestGap(0), STATE);
            due("wasMoved", x.wasMoved(0), STATE);
            x.next(0);
            x.make();
            due("edition", x.edition(0), 1);
            x.undo();
        }
    }

    // ---- Promise 23

    private static void nextArguments() {
        checks.sentence("Returns the number; INVALID_ARGUMENT if what is out of range.");
        NewspaperMakeup x = new NewspaperMakeup();
        for (int wrong : Checks.outside(0, 2)) {
            due("what " + wrong, x.next(wrong), INVALID);
        }
        due("no story", x.next(0), 0);
        due("no story", x.next(1), 0);
        due("no story", x.next(2), 180);
    }

    private static void nextReturns() {
        checks.sentence("0 the stories that would be held over, 1 those that would be moved, 2 the "
                + "free lines");
        NewspaperMakeup x = new NewspaperMakeup();
        x.setPages(2, 1, 12);
        for (int story = 0; story < 12; story++) {
            x.addStory(2, 0, 1);
        }
        for (int round = 0; round < 12; round++) {
            int held = x.next(0);
            int moved = x.next(1);
            int free = x.next(2);
            due("held over", x.make(), held);
            due("moved", x.edition(2), moved);
            due("free", x.edition(5), free);
            x.setPages(2 + round % 4, 1 + round % 2, 10 + round % 5);
            x.addParagraph(round, round);
            x.kill((5 * round + 1) % 12);
            x.setHome((7 * round + 2) % 12, round % 2);
        }
        NewspaperMakeup y = new NewspaperMakeup();
        y.setPages(2, 1, 10);
        for (int story = 0; story < 12; story++) {
            y.addStory(1, 0, 11);
        }
        due("all twelve held over", y.next(0), 12);
        due("all lines free", y.next(2), 20);
        NewspaperMakeup z = made(2, 1, 10, "1@0:10;1@1:10;");
        due("no line free", z.next(2), 0);
    }

    private static void nextChangesNothing() {
        checks.sentence("Tells what an edition that was made now would be.");
        NewspaperMakeup x = made(2, 1, 10, "5@0:6;");
        x.addStory(1, 0, 3);
        for (int i = 0; i < 3; i++) {
            due("held over", x.next(0), 0);
            due("moved", x.next(1), 1);
            due("free", x.next(2), 11);
        }
        due("edition", x.count(5), 1);
        due("free lines of the latest", x.edition(5), 14);
        due("place in the latest", x.piece(0, 0, 2), 0);
        due("the new one is not there", x.pieces(1), NONE);
    }

    // ---- Promise 24

    private static void piecesWithArguments() {
        checks.sentence("INVALID_ARGUMENT if there is no such story or rank is out of range; "
                + "ILLEGAL_STATE if it is killed.");
        for (int stories : new int[] {0, 1, 11, 12}) {
            NewspaperMakeup x = new NewspaperMakeup();
            for (int story = 0; story < stories; story++) {
                x.addStory(1, 0, 1);
            }
            for (int wrong : Checks.outside(0, stories - 1)) {
                due("story " + wrong, x.piecesWith(wrong, 1), INVALID);
            }
        }
        NewspaperMakeup x = Checks.loaded(2, 1, 10, "50@0:6;");
        for (int wrong : Checks.outside(1, 99)) {
            due("rank " + wrong, x.piecesWith(0, wrong), INVALID);
        }
        due("least", x.piecesWith(0, 1), 1);
        due("greatest", x.piecesWith(0, 99), 1);
    }

    private static void piecesWithReturns() {
        checks.sentence("Returns the number of pieces, 0 if it would be held over");
        NewspaperMakeup x = Checks.loaded(3, 1, 10, "50@0:6;50@0:7;50@0:1,2,1,7,9;");
        due("rank 49", x.piecesWith(1, 49), 1);
        due("the same rank: story 0 goes ahead", x.piecesWith(1, 50), 0);
        due("rank 51: story 2 goes ahead, too", x.piecesWith(1, 51), 0);
        due("the same rank: it goes ahead of 1 and 2", x.piecesWith(0, 50), 1);
        due("rank 51: 1 and 2 go ahead", x.piecesWith(0, 51), 0);
        due("behind 0: three pieces", x.piecesWith(2, 51), 3);
        due("first: three pieces", x.piecesWith(2, 1), 3);
        x.setParagraph(2, 4, 10);
        due("10 and a jump line", x.piecesWith(2, 1), 0);
        x.setParagraph(2, 4, 0);
        due("behind 0: 1 + 2 and a jump line, the rest", x.piecesWith(2, 50), 2);
        x.setParagraph(2, 3, 6);
        due("first: the whole story", x.piecesWith(2, 1), 1);
    }

    private static void piecesWithKilled() {
        checks.sentence("ILLEGAL_STATE if it is killed.");
        NewspaperMakeup x = Checks.loaded(2, 1, 10, "5@0:6;5@0:6;");
        x.kill(0);
        due("killed", x.piecesWith(0, 1), STATE);
        due("the other one", x.piecesWith(1, 99), 1);
        x.revive(0);
        due("alive", x.piecesWith(0, 1), 1);
    }

    private static void piecesWithIsNoChange() {
        checks.sentence("Tells in how many pieces a story would be printed in an edition that was "
                + "made now, if it had another rank.");
        // Story 1 keeps its two pieces as long as its old lines stay free.
        NewspaperMakeup x = made(2, 1, 10, "1@0:5;2@0:4,4;");
        due("two", x.pieces(1), 2);
        x.kill(0);
        due("it keeps them", x.piecesWith(1, 1), 2);
        due("it keeps them", x.piecesWith(1, 99), 2);
        due("its rank", x.story(1, 0), 2);
        x.setHome(1, 0);
        due("changed", x.piecesWith(1, 1), 1);
        due("still changed", x.piecesWith(1, 2), 1);
    }

    // ---- Promise 25

    private static void roomForReturns() {
        checks.sentence("Finds the greatest number of lines, 1 to 30, that could be added as one "
                + "more paragraph to a story so that it would not be held over in an edition that "
                + "was made now.");
        for (int height = 10; height <= 60; height++) {
            NewspaperMakeup x = new NewspaperMakeup();
            x.setPages(2, 1, height);
            x.addStory(1, 0, 1);
            // As a whole height - 1 lines, in two pieces as many behind a jump line.
            due("height " + height, x.roomFor(0), Math.min(30, height - 1));
        }
        NewspaperMakeup x = Checks.loaded(2, 1, 10, "5@0:8;1@1:7;");
        due("as a whole 2, as a second piece 2", x.roomFor(0), 2);
        x.setParagraph(1, 0, 6);
        due("as a whole 2, as a second piece 3", x.roomFor(0), 3);
        x.setParagraph(0, 0, 9);
        due("as a whole 1, as a second piece 3", x.roomFor(0), 3);
        x.setParagraph(1, 0, 10);
        due("as a whole 1", x.roomFor(0), 1);
        // In three pieces: page 2 has 6 lines, and its jump line.
        NewspaperMakeup y = Checks.loaded(3, 1, 10, "5@0:9,8;1@2:4;");
        due("as a third piece", y.roomFor(0), 5);
    }

    private static void roomForNone() {
        checks.sentence("Returns the number of lines, or 0 if there is none");
        NewspaperMakeup x = Checks.loaded(2, 1, 10, "1@0:10;");
        due("no room for a jump line", x.roomFor(0), 0);
        x.setParagraph(0, 0, 11);
        due("held over anyway", x.roomFor(0), 0);
        NewspaperMakeup y = Checks.loaded(2, 1, 10, "5@0:9;1@1:10;");
        due("one line", y.roomFor(0), 1);
        y.addStory(5, 0, 1);
        due("one line: it goes ahead", y.roomFor(0), 1);
        y.setRank(0, 6);
        due("none: it is behind", y.roomFor(0), 0);
    }

    private static void roomForGreatest() {
        checks.sentence("the greatest number of lines, 1 to 30,");
        NewspaperMakeup x = Checks.loaded(5, 4, 60, "1@0:1;");
        due("not more than 30", x.roomFor(0), 30);
        x.setPages(2, 1, 31);
        due("exactly 30", x.roomFor(0), 30);
        x.setPages(2, 1, 30);
        due("29", x.roomFor(0), 29);
        x.setPages(2, 1, 10);
        x.setParagraph(0, 0, 9);
        x.setRank(0, 2);
        x.addStory(1, 1, 8);
        due("exactly 1, as a whole and as a second piece", x.roomFor(0), 1);
        due("nothing was added", x.story(0, 2), 1);
    }

    private static void roomForArguments() {
        checks.sentence("INVALID_ARGUMENT if there is no such story; ILLEGAL_STATE if it is "
                + "killed, or has 8 paragraphs.");
        for (int stories : new int[] {0, 1, 11, 12}) {
            NewspaperMakeup x = new NewspaperMakeup();
            for (int story = 0; story < stories; story++) {
                x.addStory(1, 0, 1);
            }
            for (int wrong : Checks.outside(0, stories - 1)) {
                due("story " + wrong, x.roomFor(wrong), INVALID);
            }
        }
    }

    private static void roomForKilledOrEight() {
        checks.sentence("ILLEGAL_STATE if it is killed, or has 8 paragraphs.");
        NewspaperMakeup x = Checks.loaded(2, 1, 60, "1@0:1,1,1,1,1,1,1;2@0:1;");
        due("seven", x.roomFor(0), 30);
        x.addParagraph(0, 1);
        due("eight", x.roomFor(0), STATE);
        x.setParagraph(0, 7, 0);
        due("seven", x.roomFor(0), 30);
        x.kill(0);
        due("killed", x.roomFor(0), STATE);
        x.revive(0);
        due("alive", x.roomFor(0), 30);
        x.kill(1);
        due("killed", x.roomFor(1), STATE);
        due("the other one", x.roomFor(0), 30);
    }
}
